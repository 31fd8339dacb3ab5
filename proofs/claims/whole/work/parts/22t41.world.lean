/-! THE START: what it leaves -/
section MM221
variable {n k j : Nat} {i : Nat → Nat → Int32}
theorem st_n {α : Type} {f : Nat → α} {j k : Nat} {x : α} (h : k ≠ j) : va_up f j x k = f k := by simp [va_up, h]
theorem st_r {R : Nat → Nat → Value} {o b d k : Nat} (h : k ≠ o) : stRp R o b d k = R k := st_n h
theorem fstT1 (h : 147 ≤ k) : stT1 n k = stT0 n k := st_n (by omega)
theorem fstT2 (h : 147 ≤ k) : stT2 n k = stT1 n k := st_n (by omega)
theorem fstT3 (h : 147 ≤ k) : stT3 n k = stT2 n k := st_n (by omega)
theorem fstT4 (h : 147 ≤ k) : stT4 n k = stT3 n k := st_n (by omega)
theorem fstT5 (h : 147 ≤ k) : stT5 n k = stT4 n k := st_n (by omega)
theorem fstT6 (h : 147 ≤ k) : stT6 n k = stT5 n k := (st_n (by omega)).trans ((st_n (by omega)).trans ((st_n (by omega)).trans ((st_n (by omega)).trans (st_n (by omega)))))
theorem fstT7 (h : 147 ≤ k) : stT7 n k = stT6 n k := (st_n (by omega)).trans ((st_n (by omega)).trans ((st_n (by omega)).trans ((st_n (by omega)).trans ((st_n (by omega)).trans (st_n (by omega))))))
theorem fstT8 (h : 147 ≤ k) : stT8 n k = stT7 n k := (st_n (by omega)).trans ((st_n (by omega)).trans ((st_n (by omega)).trans ((st_n (by omega)).trans ((st_n (by omega)).trans (st_n (by omega))))))
theorem fstT9 (h : 147 ≤ k) : stT9 n k = stT8 n k := st_n (by omega)
theorem fstT10 (h : 147 ≤ k) : stT10 n k = stT9 n k := (st_n (by omega)).trans ((st_n (by omega)).trans ((st_n (by omega)).trans ((st_n (by omega)).trans ((st_n (by omega)).trans (st_n (by omega))))))
theorem fstT11 (h : 147 ≤ k) : stT11 n k = stT10 n k := rfl
theorem fstT12 (h : 147 ≤ k) : stT12 n k = stT11 n k := rfl
theorem fstT13 (h : 147 ≤ k) : stT13 n k = stT12 n k := st_n (by omega)
theorem fstT14 (h : 147 ≤ k) : stT14 n k = stT13 n k := rfl
theorem fstT15 (h : 147 ≤ k) : stT15 n k = stT14 n k := st_n (by omega)
theorem fstT16 (h : 147 ≤ k) : stT16 n k = stT15 n k := st_n (by omega)
theorem fstT17 (h : 147 ≤ k) : stT17 n k = stT16 n k := (st_n (by omega)).trans ((st_n (by omega)).trans ((st_n (by omega)).trans ((st_n (by omega)).trans (st_n (by omega)))))
theorem fstT18 (h : 147 ≤ k) : stT18 n k = stT17 n k := (st_n (by omega)).trans ((st_n (by omega)).trans ((st_n (by omega)).trans ((st_n (by omega)).trans ((st_n (by omega)).trans (st_n (by omega))))))
theorem fstT19 (h : 147 ≤ k) : stT19 n k = stT18 n k := (st_n (by omega)).trans ((st_n (by omega)).trans ((st_n (by omega)).trans ((st_n (by omega)).trans ((st_n (by omega)).trans (st_n (by omega))))))
theorem fstT20 (h : 147 ≤ k) : stT20 n k = stT19 n k := st_n (by omega)
theorem fstT21 (h : 147 ≤ k) : stT21 n k = stT20 n k := (st_n (by omega)).trans ((st_n (by omega)).trans ((st_n (by omega)).trans ((st_n (by omega)).trans ((st_n (by omega)).trans (st_n (by omega))))))
theorem fstT22 (h : 147 ≤ k) : stT22 n k = stT21 n k := rfl
theorem fstT23 (h : 147 ≤ k) : stT23 n k = stT22 n k := st_n (by omega)
theorem fstT24 (h : 147 ≤ k) : stT24 n k = stT23 n k := st_n (by omega)
theorem fstT25 (h : 147 ≤ k) : stT25 n k = stT24 n k := (st_n (by omega)).trans ((st_n (by omega)).trans ((st_n (by omega)).trans (st_n (by omega))))
theorem fstT26 (h : 147 ≤ k) : stT26 n k = stT25 n k := rfl
theorem fstT27 (h : 147 ≤ k) : stT27 n k = stT26 n k := rfl
theorem fstT28 (h : 147 ≤ k) : stT28 n k = stT27 n k := rfl
theorem fstT29 (h : 147 ≤ k) : stT29 n k = stT28 n k := rfl
theorem fstT30 (h : 147 ≤ k) : stT30 n k = stT29 n k := rfl
theorem fstT31 (h : 147 ≤ k) : stT31 n k = stT30 n k := rfl
theorem fstT32 (h : 147 ≤ k) : stT32 n k = stT31 n k := rfl
theorem fstT33 (h : 147 ≤ k) : stT33 n k = stT32 n k := rfl
theorem fstT34 (h : 147 ≤ k) : stT34 n k = stT33 n k := rfl
theorem fstT35 (h : 147 ≤ k) : stT35 n k = stT34 n k := rfl
theorem fstT36 (h : 147 ≤ k) : stT36 n k = stT35 n k := rfl
theorem fstT37 (h : 147 ≤ k) : stT37 n k = stT36 n k := rfl
theorem fstT38 (h : 147 ≤ k) : stT38 n k = stT37 n k := rfl
theorem fstT39 (h : 147 ≤ k) : stT39 n k = stT38 n k := st_n (by omega)
theorem fstT40 (h : 147 ≤ k) : stT40 n k = stT39 n k := (st_n (by omega)).trans ((st_n (by omega)).trans ((st_n (by omega)).trans (st_n (by omega))))
theorem fstT41 (h : 147 ≤ k) : stT41 n k = stT40 n k := rfl
theorem fstT42 (h : 147 ≤ k) : stT42 n k = stT41 n k := rfl
theorem fstT43 (h : 147 ≤ k) : stT43 n k = stT42 n k := rfl
theorem fstT44 (h : 147 ≤ k) : stT44 n k = stT43 n k := rfl
theorem fstT45 (h : 147 ≤ k) : stT45 n k = stT44 n k := rfl
theorem fstT46 (h : 147 ≤ k) : stT46 n k = stT45 n k := rfl
theorem fstT47 (h : 147 ≤ k) : stT47 n k = stT46 n k := rfl
theorem fstT48 (h : 147 ≤ k) : stT48 n k = stT47 n k := rfl
theorem fstT49 (h : 147 ≤ k) : stT49 n k = stT48 n k := rfl
theorem fstT50 (h : 147 ≤ k) : stT50 n k = stT49 n k := rfl
theorem fstT51 (h : 147 ≤ k) : stT51 n k = stT50 n k := rfl
theorem fstT52 (h : 147 ≤ k) : stT52 n k = stT51 n k := rfl
theorem fstT53 (h : 147 ≤ k) : stT53 n k = stT52 n k := rfl
theorem fstT54 (h : 147 ≤ k) : stT54 n k = stT53 n k := st_n (by omega)
theorem fstT55 (h : 147 ≤ k) : stT55 n k = stT54 n k := st_n (by omega)
theorem fstT56 (h : 147 ≤ k) : stT56 n k = stT55 n k := (st_n (by omega)).trans ((st_n (by omega)).trans ((st_n (by omega)).trans ((st_n (by omega)).trans (st_n (by omega)))))
theorem fstT57 (h : 147 ≤ k) : stT57 n k = stT56 n k := (st_n (by omega)).trans ((st_n (by omega)).trans ((st_n (by omega)).trans ((st_n (by omega)).trans ((st_n (by omega)).trans (st_n (by omega))))))
theorem fstT58 (h : 147 ≤ k) : stT58 n k = stT57 n k := rfl
theorem fstT59 (h : 147 ≤ k) : stT59 n k = stT58 n k := rfl
theorem fstT60 (h : 147 ≤ k) : stT60 n k = stT59 n k := rfl
theorem fstT61 (h : 147 ≤ k) : stT61 n k = stT60 n k := rfl
theorem fstT62 (h : 147 ≤ k) : stT62 n k = stT61 n k := rfl
theorem fstT63 (h : 147 ≤ k) : stT63 n k = stT62 n k := rfl
theorem fstT64 (h : 147 ≤ k) : stT64 n k = stT63 n k := rfl
theorem fstT65 (h : 147 ≤ k) : stT65 n k = stT64 n k := rfl
theorem fstT66 (h : 147 ≤ k) : stT66 n k = stT65 n k := rfl
theorem fstT67 (h : 147 ≤ k) : stT67 n k = stT66 n k := rfl
theorem fstT68 (h : 147 ≤ k) : stT68 n k = stT67 n k := rfl
theorem fstT69 (h : 147 ≤ k) : stT69 n k = stT68 n k := rfl
theorem fstT70 (h : 147 ≤ k) : stT70 n k = stT69 n k := rfl
theorem fstT71 (h : 147 ≤ k) : stT71 n k = stT70 n k := rfl
theorem fstT72 (h : 147 ≤ k) : stT72 n k = stT71 n k := rfl
theorem fstT73 (h : 147 ≤ k) : stT73 n k = stT72 n k := rfl
theorem fstT74 (h : 147 ≤ k) : stT74 n k = stT73 n k := rfl
theorem fstT75 (h : 147 ≤ k) : stT75 n k = stT74 n k := rfl
theorem fstT76 (h : 147 ≤ k) : stT76 n k = stT75 n k := rfl
theorem fstT77 (h : 147 ≤ k) : stT77 n k = stT76 n k := rfl
theorem fstT78 (h : 147 ≤ k) : stT78 n k = stT77 n k := rfl
theorem fstT79 (h : 147 ≤ k) : stT79 n k = stT78 n k := rfl
theorem fstT80 (h : 147 ≤ k) : stT80 n k = stT79 n k := rfl
theorem fstT81 (h : 147 ≤ k) : stT81 n k = stT80 n k := rfl
theorem fstT82 (h : 147 ≤ k) : stT82 n k = stT81 n k := rfl
theorem fstT83 (h : 147 ≤ k) : stT83 n k = stT82 n k := rfl
theorem fstT84 (h : 147 ≤ k) : stT84 n k = stT83 n k := st_n (by omega)
theorem fstT85 (h : 147 ≤ k) : stT85 n k = stT84 n k := rfl
theorem fstT86 (h : 147 ≤ k) : stT86 n k = stT85 n k := st_n (by omega)
theorem fstT87 (h : 147 ≤ k) : stT87 n k = stT86 n k := rfl
theorem fstT88 (h : 147 ≤ k) : stT88 n k = stT87 n k := st_n (by omega)
theorem fstT89 (h : 147 ≤ k) : stT89 n k = stT88 n k := st_n (by omega)
theorem fstT90 (h : 147 ≤ k) : stT90 n k = stT89 n k := (st_n (by omega)).trans ((st_n (by omega)).trans ((st_n (by omega)).trans ((st_n (by omega)).trans (st_n (by omega)))))
theorem fstT91 (h : 147 ≤ k) : stT91 n k = stT90 n k := (st_n (by omega)).trans ((st_n (by omega)).trans ((st_n (by omega)).trans ((st_n (by omega)).trans ((st_n (by omega)).trans (st_n (by omega))))))
theorem fstT92 (h : 147 ≤ k) : stT92 n k = stT91 n k := (st_n (by omega)).trans ((st_n (by omega)).trans ((st_n (by omega)).trans ((st_n (by omega)).trans ((st_n (by omega)).trans (st_n (by omega))))))
theorem fstT93 (h : 147 ≤ k) : stT93 n k = stT92 n k := (st_n (by omega)).trans ((st_n (by omega)).trans ((st_n (by omega)).trans ((st_n (by omega)).trans ((st_n (by omega)).trans (st_n (by omega))))))
theorem fstT94 (h : 147 ≤ k) : stT94 n k = stT93 n k := (st_n (by omega)).trans ((st_n (by omega)).trans ((st_n (by omega)).trans ((st_n (by omega)).trans ((st_n (by omega)).trans (st_n (by omega))))))
theorem fstT95 (h : 147 ≤ k) : stT95 n k = stT94 n k := (st_n (by omega)).trans ((st_n (by omega)).trans ((st_n (by omega)).trans ((st_n (by omega)).trans ((st_n (by omega)).trans (st_n (by omega))))))
theorem fstT96 (h : 147 ≤ k) : stT96 n k = stT95 n k := (st_n (by omega)).trans ((st_n (by omega)).trans ((st_n (by omega)).trans ((st_n (by omega)).trans ((st_n (by omega)).trans (st_n (by omega))))))
theorem fstT97 (h : 147 ≤ k) : stT97 n k = stT96 n k := (st_n (by omega)).trans ((st_n (by omega)).trans ((st_n (by omega)).trans ((st_n (by omega)).trans ((st_n (by omega)).trans (st_n (by omega))))))
theorem fstT98 (h : 147 ≤ k) : stT98 n k = stT97 n k := (st_n (by omega)).trans ((st_n (by omega)).trans ((st_n (by omega)).trans ((st_n (by omega)).trans ((st_n (by omega)).trans (st_n (by omega))))))
theorem fstT99 (h : 147 ≤ k) : stT99 n k = stT98 n k := (st_n (by omega)).trans ((st_n (by omega)).trans ((st_n (by omega)).trans ((st_n (by omega)).trans ((st_n (by omega)).trans (st_n (by omega))))))
theorem fstT100 (h : 147 ≤ k) : stT100 n k = stT99 n k := (st_n (by omega)).trans ((st_n (by omega)).trans (st_n (by omega)))
theorem fstT101 (h : 147 ≤ k) : stT101 n k = stT100 n k := rfl
theorem fstT102 (h : 147 ≤ k) : stT102 n k = stT101 n k := rfl
theorem fstT103 (h : 147 ≤ k) : stT103 n k = stT102 n k := rfl
theorem fstT104 (h : 147 ≤ k) : stT104 n k = stT103 n k := rfl
theorem fstT105 (h : 147 ≤ k) : stT105 n k = stT104 n k := rfl
theorem fstT106 (h : 147 ≤ k) : stT106 n k = stT105 n k := rfl
theorem fstT107 (h : 147 ≤ k) : stT107 n k = stT106 n k := rfl
theorem fstT108 (h : 147 ≤ k) : stT108 n k = stT107 n k := rfl
theorem fstT109 (h : 147 ≤ k) : stT109 n k = stT108 n k := rfl
theorem fstT110 (h : 147 ≤ k) : stT110 n k = stT109 n k := rfl
theorem fstT111 (h : 147 ≤ k) : stT111 n k = stT110 n k := rfl
theorem fstT112 (h : 147 ≤ k) : stT112 n k = stT111 n k := rfl
theorem fstT113 (h : 147 ≤ k) : stT113 n k = stT112 n k := rfl
theorem fstT114 (h : 147 ≤ k) : stT114 n k = stT113 n k := rfl
theorem fstT115 (h : 147 ≤ k) : stT115 n k = stT114 n k := rfl
theorem fstT116 (h : 147 ≤ k) : stT116 n k = stT115 n k := rfl
theorem fstT117 (h : 147 ≤ k) : stT117 n k = stT116 n k := rfl
theorem fstT118 (h : 147 ≤ k) : stT118 n k = stT117 n k := rfl
theorem fstT119 (h : 147 ≤ k) : stT119 n k = stT118 n k := rfl
theorem fstT120 (h : 147 ≤ k) : stT120 n k = stT119 n k := rfl
theorem fstT121 (h : 147 ≤ k) : stT121 n k = stT120 n k := st_n (by omega)
set_option maxRecDepth 20000 in
theorem fstT_all (h : 147 ≤ k) : stT121 n k = stT0 n k := (fstT121 h).trans ((fstT120 h).trans ((fstT119 h).trans ((fstT118 h).trans ((fstT117 h).trans ((fstT116 h).trans ((fstT115 h).trans ((fstT114 h).trans ((fstT113 h).trans ((fstT112 h).trans ((fstT111 h).trans ((fstT110 h).trans ((fstT109 h).trans ((fstT108 h).trans ((fstT107 h).trans ((fstT106 h).trans ((fstT105 h).trans ((fstT104 h).trans ((fstT103 h).trans ((fstT102 h).trans ((fstT101 h).trans ((fstT100 h).trans ((fstT99 h).trans ((fstT98 h).trans ((fstT97 h).trans ((fstT96 h).trans ((fstT95 h).trans ((fstT94 h).trans ((fstT93 h).trans ((fstT92 h).trans ((fstT91 h).trans ((fstT90 h).trans ((fstT89 h).trans ((fstT88 h).trans ((fstT87 h).trans ((fstT86 h).trans ((fstT85 h).trans ((fstT84 h).trans ((fstT83 h).trans ((fstT82 h).trans ((fstT81 h).trans ((fstT80 h).trans ((fstT79 h).trans ((fstT78 h).trans ((fstT77 h).trans ((fstT76 h).trans ((fstT75 h).trans ((fstT74 h).trans ((fstT73 h).trans ((fstT72 h).trans ((fstT71 h).trans ((fstT70 h).trans ((fstT69 h).trans ((fstT68 h).trans ((fstT67 h).trans ((fstT66 h).trans ((fstT65 h).trans ((fstT64 h).trans ((fstT63 h).trans ((fstT62 h).trans ((fstT61 h).trans ((fstT60 h).trans ((fstT59 h).trans ((fstT58 h).trans ((fstT57 h).trans ((fstT56 h).trans ((fstT55 h).trans ((fstT54 h).trans ((fstT53 h).trans ((fstT52 h).trans ((fstT51 h).trans ((fstT50 h).trans ((fstT49 h).trans ((fstT48 h).trans ((fstT47 h).trans ((fstT46 h).trans ((fstT45 h).trans ((fstT44 h).trans ((fstT43 h).trans ((fstT42 h).trans ((fstT41 h).trans ((fstT40 h).trans ((fstT39 h).trans ((fstT38 h).trans ((fstT37 h).trans ((fstT36 h).trans ((fstT35 h).trans ((fstT34 h).trans ((fstT33 h).trans ((fstT32 h).trans ((fstT31 h).trans ((fstT30 h).trans ((fstT29 h).trans ((fstT28 h).trans ((fstT27 h).trans ((fstT26 h).trans ((fstT25 h).trans ((fstT24 h).trans ((fstT23 h).trans ((fstT22 h).trans ((fstT21 h).trans ((fstT20 h).trans ((fstT19 h).trans ((fstT18 h).trans ((fstT17 h).trans ((fstT16 h).trans ((fstT15 h).trans ((fstT14 h).trans ((fstT13 h).trans ((fstT12 h).trans ((fstT11 h).trans ((fstT10 h).trans ((fstT9 h).trans ((fstT8 h).trans ((fstT7 h).trans ((fstT6 h).trans ((fstT5 h).trans ((fstT4 h).trans ((fstT3 h).trans ((fstT2 h).trans (fstT1 h))))))))))))))))))))))))))))))))))))))))))))))))))))))))))))))))))))))))))))))))))))))))))))))))))))))))))))))))))))))))
theorem fstI1 (h : 147 ≤ k) : stI1 i k = stI0 i k := st_n (by omega)
theorem fstI2 (h : 147 ≤ k) : stI2 i k = stI1 i k := st_n (by omega)
theorem fstI3 (h : 147 ≤ k) : stI3 i k = stI2 i k := st_n (by omega)
theorem fstI4 (h : 147 ≤ k) : stI4 i k = stI3 i k := st_n (by omega)
theorem fstI5 (h : 147 ≤ k) : stI5 i k = stI4 i k := st_n (by omega)
theorem fstI6 (h : 147 ≤ k) : stI6 i k = stI5 i k := (st_n (by omega)).trans ((st_n (by omega)).trans ((st_n (by omega)).trans ((st_n (by omega)).trans (st_n (by omega)))))
theorem fstI7 (h : 147 ≤ k) : stI7 i k = stI6 i k := (st_n (by omega)).trans ((st_n (by omega)).trans ((st_n (by omega)).trans ((st_n (by omega)).trans ((st_n (by omega)).trans (st_n (by omega))))))
theorem fstI8 (h : 147 ≤ k) : stI8 i k = stI7 i k := (st_n (by omega)).trans ((st_n (by omega)).trans ((st_n (by omega)).trans ((st_n (by omega)).trans ((st_n (by omega)).trans (st_n (by omega))))))
theorem fstI9 (h : 147 ≤ k) : stI9 i k = stI8 i k := st_n (by omega)
theorem fstI10 (h : 147 ≤ k) : stI10 i k = stI9 i k := (st_n (by omega)).trans ((st_n (by omega)).trans ((st_n (by omega)).trans ((st_n (by omega)).trans ((st_n (by omega)).trans (st_n (by omega))))))
theorem fstI11 (h : 147 ≤ k) : stI11 i k = stI10 i k := rfl
theorem fstI12 (h : 147 ≤ k) : stI12 i k = stI11 i k := rfl
theorem fstI13 (h : 147 ≤ k) : stI13 i k = stI12 i k := st_n (by omega)
theorem fstI14 (h : 147 ≤ k) : stI14 i k = stI13 i k := rfl
theorem fstI15 (h : 147 ≤ k) : stI15 i k = stI14 i k := st_n (by omega)
theorem fstI16 (h : 147 ≤ k) : stI16 i k = stI15 i k := st_n (by omega)
theorem fstI17 (h : 147 ≤ k) : stI17 i k = stI16 i k := (st_n (by omega)).trans ((st_n (by omega)).trans ((st_n (by omega)).trans ((st_n (by omega)).trans (st_n (by omega)))))
theorem fstI18 (h : 147 ≤ k) : stI18 i k = stI17 i k := (st_n (by omega)).trans ((st_n (by omega)).trans ((st_n (by omega)).trans ((st_n (by omega)).trans ((st_n (by omega)).trans (st_n (by omega))))))
theorem fstI19 (h : 147 ≤ k) : stI19 i k = stI18 i k := (st_n (by omega)).trans ((st_n (by omega)).trans ((st_n (by omega)).trans ((st_n (by omega)).trans ((st_n (by omega)).trans (st_n (by omega))))))
theorem fstI20 (h : 147 ≤ k) : stI20 i k = stI19 i k := st_n (by omega)
theorem fstI21 (h : 147 ≤ k) : stI21 i k = stI20 i k := (st_n (by omega)).trans ((st_n (by omega)).trans ((st_n (by omega)).trans ((st_n (by omega)).trans ((st_n (by omega)).trans (st_n (by omega))))))
theorem fstI22 (h : 147 ≤ k) : stI22 i k = stI21 i k := rfl
theorem fstI23 (h : 147 ≤ k) : stI23 i k = stI22 i k := st_n (by omega)
theorem fstI24 (h : 147 ≤ k) : stI24 i k = stI23 i k := st_n (by omega)
theorem fstI25 (h : 147 ≤ k) : stI25 i k = stI24 i k := (st_n (by omega)).trans ((st_n (by omega)).trans ((st_n (by omega)).trans (st_n (by omega))))
theorem fstI26 (h : 147 ≤ k) : stI26 i k = stI25 i k := (mw_k (by omega)).trans (mw_k (by omega))
theorem fstI27 (h : 147 ≤ k) : stI27 i k = stI26 i k := (mw_k (by omega)).trans ((mw_k (by omega)).trans (mw_k (by omega)))
theorem fstI28 (h : 147 ≤ k) : stI28 i k = stI27 i k := (mw_k (by omega)).trans (mw_k (by omega))
theorem fstI29 (h : 147 ≤ k) : stI29 i k = stI28 i k := (mw_k (by omega)).trans ((mw_k (by omega)).trans (mw_k (by omega)))
theorem fstI30 (h : 147 ≤ k) : stI30 i k = stI29 i k := (mw_k (by omega)).trans ((mw_k (by omega)).trans (mw_k (by omega)))
theorem fstI31 (h : 147 ≤ k) : stI31 i k = stI30 i k := (mw_k (by omega)).trans (mw_k (by omega))
theorem fstI32 (h : 147 ≤ k) : stI32 i k = stI31 i k := (mw_k (by omega)).trans ((mw_k (by omega)).trans (mw_k (by omega)))
theorem fstI33 (h : 147 ≤ k) : stI33 i k = stI32 i k := (mw_k (by omega)).trans ((mw_k (by omega)).trans (mw_k (by omega)))
theorem fstI34 (h : 147 ≤ k) : stI34 i k = stI33 i k := (mw_k (by omega)).trans (mw_k (by omega))
theorem fstI35 (h : 147 ≤ k) : stI35 i k = stI34 i k := (mw_k (by omega)).trans ((mw_k (by omega)).trans (mw_k (by omega)))
theorem fstI36 (h : 147 ≤ k) : stI36 i k = stI35 i k := (mw_k (by omega)).trans ((mw_k (by omega)).trans (mw_k (by omega)))
theorem fstI37 (h : 147 ≤ k) : stI37 i k = stI36 i k := (mw_k (by omega)).trans (mw_k (by omega))
theorem fstI38 (h : 147 ≤ k) : stI38 i k = stI37 i k := mw_k (by omega)
theorem fstI39 (h : 147 ≤ k) : stI39 i k = stI38 i k := st_n (by omega)
theorem fstI40 (h : 147 ≤ k) : stI40 i k = stI39 i k := (st_n (by omega)).trans ((st_n (by omega)).trans ((st_n (by omega)).trans (st_n (by omega))))
theorem fstI41 (h : 147 ≤ k) : stI41 i k = stI40 i k := (mw_k (by omega)).trans (mw_k (by omega))
theorem fstI42 (h : 147 ≤ k) : stI42 i k = stI41 i k := (mw_k (by omega)).trans ((mw_k (by omega)).trans (mw_k (by omega)))
theorem fstI43 (h : 147 ≤ k) : stI43 i k = stI42 i k := (mw_k (by omega)).trans (mw_k (by omega))
theorem fstI44 (h : 147 ≤ k) : stI44 i k = stI43 i k := (mw_k (by omega)).trans ((mw_k (by omega)).trans (mw_k (by omega)))
theorem fstI45 (h : 147 ≤ k) : stI45 i k = stI44 i k := (mw_k (by omega)).trans ((mw_k (by omega)).trans (mw_k (by omega)))
theorem fstI46 (h : 147 ≤ k) : stI46 i k = stI45 i k := (mw_k (by omega)).trans (mw_k (by omega))
theorem fstI47 (h : 147 ≤ k) : stI47 i k = stI46 i k := (mw_k (by omega)).trans ((mw_k (by omega)).trans (mw_k (by omega)))
theorem fstI48 (h : 147 ≤ k) : stI48 i k = stI47 i k := (mw_k (by omega)).trans ((mw_k (by omega)).trans (mw_k (by omega)))
theorem fstI49 (h : 147 ≤ k) : stI49 i k = stI48 i k := (mw_k (by omega)).trans (mw_k (by omega))
theorem fstI50 (h : 147 ≤ k) : stI50 i k = stI49 i k := (mw_k (by omega)).trans ((mw_k (by omega)).trans (mw_k (by omega)))
theorem fstI51 (h : 147 ≤ k) : stI51 i k = stI50 i k := (mw_k (by omega)).trans ((mw_k (by omega)).trans (mw_k (by omega)))
theorem fstI52 (h : 147 ≤ k) : stI52 i k = stI51 i k := (mw_k (by omega)).trans (mw_k (by omega))
theorem fstI53 (h : 147 ≤ k) : stI53 i k = stI52 i k := mw_k (by omega)
theorem fstI54 (h : 147 ≤ k) : stI54 i k = stI53 i k := st_n (by omega)
theorem fstI55 (h : 147 ≤ k) : stI55 i k = stI54 i k := st_n (by omega)
theorem fstI56 (h : 147 ≤ k) : stI56 i k = stI55 i k := (st_n (by omega)).trans ((st_n (by omega)).trans ((st_n (by omega)).trans ((st_n (by omega)).trans (st_n (by omega)))))
theorem fstI57 (h : 147 ≤ k) : stI57 i k = stI56 i k := (st_n (by omega)).trans ((st_n (by omega)).trans ((st_n (by omega)).trans ((st_n (by omega)).trans ((st_n (by omega)).trans (st_n (by omega))))))
theorem fstI58 (h : 147 ≤ k) : stI58 i k = stI57 i k := rfl
theorem fstI59 (h : 147 ≤ k) : stI59 i k = stI58 i k := (mw_k (by omega)).trans (mw_k (by omega))
theorem fstI60 (h : 147 ≤ k) : stI60 i k = stI59 i k := (mw_k (by omega)).trans ((mw_k (by omega)).trans (mw_k (by omega)))
theorem fstI61 (h : 147 ≤ k) : stI61 i k = stI60 i k := (mw_k (by omega)).trans (mw_k (by omega))
theorem fstI62 (h : 147 ≤ k) : stI62 i k = stI61 i k := mw_k (by omega)
theorem fstI63 (h : 147 ≤ k) : stI63 i k = stI62 i k := (mw_k (by omega)).trans (mw_k (by omega))
theorem fstI64 (h : 147 ≤ k) : stI64 i k = stI63 i k := (mw_k (by omega)).trans ((mw_k (by omega)).trans (mw_k (by omega)))
theorem fstI65 (h : 147 ≤ k) : stI65 i k = stI64 i k := (mw_k (by omega)).trans (mw_k (by omega))
theorem fstI66 (h : 147 ≤ k) : stI66 i k = stI65 i k := (mw_k (by omega)).trans ((mw_k (by omega)).trans (mw_k (by omega)))
theorem fstI67 (h : 147 ≤ k) : stI67 i k = stI66 i k := (mw_k (by omega)).trans ((mw_k (by omega)).trans (mw_k (by omega)))
theorem fstI68 (h : 147 ≤ k) : stI68 i k = stI67 i k := (mw_k (by omega)).trans (mw_k (by omega))
theorem fstI69 (h : 147 ≤ k) : stI69 i k = stI68 i k := (mw_k (by omega)).trans ((mw_k (by omega)).trans (mw_k (by omega)))
theorem fstI70 (h : 147 ≤ k) : stI70 i k = stI69 i k := (mw_k (by omega)).trans ((mw_k (by omega)).trans (mw_k (by omega)))
theorem fstI71 (h : 147 ≤ k) : stI71 i k = stI70 i k := (mw_k (by omega)).trans (mw_k (by omega))
theorem fstI72 (h : 147 ≤ k) : stI72 i k = stI71 i k := (mw_k (by omega)).trans ((mw_k (by omega)).trans (mw_k (by omega)))
theorem fstI73 (h : 147 ≤ k) : stI73 i k = stI72 i k := (mw_k (by omega)).trans ((mw_k (by omega)).trans (mw_k (by omega)))
theorem fstI74 (h : 147 ≤ k) : stI74 i k = stI73 i k := (mw_k (by omega)).trans (mw_k (by omega))
theorem fstI75 (h : 147 ≤ k) : stI75 i k = stI74 i k := (mw_k (by omega)).trans ((mw_k (by omega)).trans (mw_k (by omega)))
theorem fstI76 (h : 147 ≤ k) : stI76 i k = stI75 i k := (mw_k (by omega)).trans ((mw_k (by omega)).trans (mw_k (by omega)))
theorem fstI77 (h : 147 ≤ k) : stI77 i k = stI76 i k := (mw_k (by omega)).trans (mw_k (by omega))
theorem fstI78 (h : 147 ≤ k) : stI78 i k = stI77 i k := (mw_k (by omega)).trans ((mw_k (by omega)).trans (mw_k (by omega)))
theorem fstI79 (h : 147 ≤ k) : stI79 i k = stI78 i k := (mw_k (by omega)).trans ((mw_k (by omega)).trans (mw_k (by omega)))
theorem fstI80 (h : 147 ≤ k) : stI80 i k = stI79 i k := (mw_k (by omega)).trans (mw_k (by omega))
theorem fstI81 (h : 147 ≤ k) : stI81 i k = stI80 i k := mw_k (by omega)
theorem fstI82 (h : 147 ≤ k) : stI82 i k = stI81 i k := (mw_k (by omega)).trans (mw_k (by omega))
theorem fstI83 (h : 147 ≤ k) : stI83 i k = stI82 i k := (mw_k (by omega)).trans (mw_k (by omega))
theorem fstI84 (h : 147 ≤ k) : stI84 i k = stI83 i k := st_n (by omega)
theorem fstI85 (h : 147 ≤ k) : stI85 i k = stI84 i k := rfl
theorem fstI86 (h : 147 ≤ k) : stI86 i k = stI85 i k := st_n (by omega)
theorem fstI87 (h : 147 ≤ k) : stI87 i k = stI86 i k := rfl
theorem fstI88 (h : 147 ≤ k) : stI88 i k = stI87 i k := st_n (by omega)
theorem fstI89 (h : 147 ≤ k) : stI89 i k = stI88 i k := st_n (by omega)
theorem fstI90 (h : 147 ≤ k) : stI90 i k = stI89 i k := (st_n (by omega)).trans ((st_n (by omega)).trans ((st_n (by omega)).trans ((st_n (by omega)).trans (st_n (by omega)))))
theorem fstI91 (h : 147 ≤ k) : stI91 i k = stI90 i k := (st_n (by omega)).trans ((st_n (by omega)).trans ((st_n (by omega)).trans ((st_n (by omega)).trans ((st_n (by omega)).trans (st_n (by omega))))))
theorem fstI92 (h : 147 ≤ k) : stI92 i k = stI91 i k := (st_n (by omega)).trans ((st_n (by omega)).trans ((st_n (by omega)).trans ((st_n (by omega)).trans ((st_n (by omega)).trans (st_n (by omega))))))
theorem fstI93 (h : 147 ≤ k) : stI93 i k = stI92 i k := (st_n (by omega)).trans ((st_n (by omega)).trans ((st_n (by omega)).trans ((st_n (by omega)).trans ((st_n (by omega)).trans (st_n (by omega))))))
theorem fstI94 (h : 147 ≤ k) : stI94 i k = stI93 i k := (st_n (by omega)).trans ((st_n (by omega)).trans ((st_n (by omega)).trans ((st_n (by omega)).trans ((st_n (by omega)).trans (st_n (by omega))))))
theorem fstI95 (h : 147 ≤ k) : stI95 i k = stI94 i k := (st_n (by omega)).trans ((st_n (by omega)).trans ((st_n (by omega)).trans ((st_n (by omega)).trans ((st_n (by omega)).trans (st_n (by omega))))))
theorem fstI96 (h : 147 ≤ k) : stI96 i k = stI95 i k := (st_n (by omega)).trans ((st_n (by omega)).trans ((st_n (by omega)).trans ((st_n (by omega)).trans ((st_n (by omega)).trans (st_n (by omega))))))
theorem fstI97 (h : 147 ≤ k) : stI97 i k = stI96 i k := (st_n (by omega)).trans ((st_n (by omega)).trans ((st_n (by omega)).trans ((st_n (by omega)).trans ((st_n (by omega)).trans (st_n (by omega))))))
theorem fstI98 (h : 147 ≤ k) : stI98 i k = stI97 i k := (st_n (by omega)).trans ((st_n (by omega)).trans ((st_n (by omega)).trans ((st_n (by omega)).trans ((st_n (by omega)).trans (st_n (by omega))))))
theorem fstI99 (h : 147 ≤ k) : stI99 i k = stI98 i k := (st_n (by omega)).trans ((st_n (by omega)).trans ((st_n (by omega)).trans ((st_n (by omega)).trans ((st_n (by omega)).trans (st_n (by omega))))))
theorem fstI100 (h : 147 ≤ k) : stI100 i k = stI99 i k := (st_n (by omega)).trans ((st_n (by omega)).trans (st_n (by omega)))
theorem fstI101 (h : 147 ≤ k) : stI101 i k = stI100 i k := rfl
theorem fstI102 (h : 147 ≤ k) : stI102 i k = stI101 i k := rfl
theorem fstI103 (h : 147 ≤ k) : stI103 i k = stI102 i k := rfl
theorem fstI104 (h : 147 ≤ k) : stI104 i k = stI103 i k := rfl
theorem fstI105 (h : 147 ≤ k) : stI105 i k = stI104 i k := rfl
theorem fstI106 (h : 147 ≤ k) : stI106 i k = stI105 i k := rfl
theorem fstI107 (h : 147 ≤ k) : stI107 i k = stI106 i k := rfl
theorem fstI108 (h : 147 ≤ k) : stI108 i k = stI107 i k := rfl
theorem fstI109 (h : 147 ≤ k) : stI109 i k = stI108 i k := (mw_k (by omega)).trans ((mw_k (by omega)).trans ((mw_k (by omega)).trans (mw_k (by omega))))
theorem fstI110 (h : 147 ≤ k) : stI110 i k = stI109 i k := (mw_k (by omega)).trans ((mw_k (by omega)).trans ((mw_k (by omega)).trans ((mw_k (by omega)).trans (mw_k (by omega)))))
theorem fstI111 (h : 147 ≤ k) : stI111 i k = stI110 i k := (mw_k (by omega)).trans ((mw_k (by omega)).trans ((mw_k (by omega)).trans ((mw_k (by omega)).trans (mw_k (by omega)))))
theorem fstI112 (h : 147 ≤ k) : stI112 i k = stI111 i k := (mw_k (by omega)).trans ((mw_k (by omega)).trans ((mw_k (by omega)).trans ((mw_k (by omega)).trans (mw_k (by omega)))))
theorem fstI113 (h : 147 ≤ k) : stI113 i k = stI112 i k := (mw_k (by omega)).trans ((mw_k (by omega)).trans ((mw_k (by omega)).trans ((mw_k (by omega)).trans (mw_k (by omega)))))
theorem fstI114 (h : 147 ≤ k) : stI114 i k = stI113 i k := (mw_k (by omega)).trans ((mw_k (by omega)).trans ((mw_k (by omega)).trans (mw_k (by omega))))
theorem fstI115 (h : 147 ≤ k) : stI115 i k = stI114 i k := rfl
theorem fstI116 (h : 147 ≤ k) : stI116 i k = stI115 i k := rfl
theorem fstI117 (h : 147 ≤ k) : stI117 i k = stI116 i k := rfl
theorem fstI118 (h : 147 ≤ k) : stI118 i k = stI117 i k := rfl
theorem fstI119 (h : 147 ≤ k) : stI119 i k = stI118 i k := rfl
theorem fstI120 (h : 147 ≤ k) : stI120 i k = stI119 i k := rfl
theorem fstI121 (h : 147 ≤ k) : stI121 i k = stI120 i k := st_n (by omega)
set_option maxRecDepth 20000 in
theorem fstI_all (h : 147 ≤ k) : stI121 i k = stI0 i k := (fstI121 h).trans ((fstI120 h).trans ((fstI119 h).trans ((fstI118 h).trans ((fstI117 h).trans ((fstI116 h).trans ((fstI115 h).trans ((fstI114 h).trans ((fstI113 h).trans ((fstI112 h).trans ((fstI111 h).trans ((fstI110 h).trans ((fstI109 h).trans ((fstI108 h).trans ((fstI107 h).trans ((fstI106 h).trans ((fstI105 h).trans ((fstI104 h).trans ((fstI103 h).trans ((fstI102 h).trans ((fstI101 h).trans ((fstI100 h).trans ((fstI99 h).trans ((fstI98 h).trans ((fstI97 h).trans ((fstI96 h).trans ((fstI95 h).trans ((fstI94 h).trans ((fstI93 h).trans ((fstI92 h).trans ((fstI91 h).trans ((fstI90 h).trans ((fstI89 h).trans ((fstI88 h).trans ((fstI87 h).trans ((fstI86 h).trans ((fstI85 h).trans ((fstI84 h).trans ((fstI83 h).trans ((fstI82 h).trans ((fstI81 h).trans ((fstI80 h).trans ((fstI79 h).trans ((fstI78 h).trans ((fstI77 h).trans ((fstI76 h).trans ((fstI75 h).trans ((fstI74 h).trans ((fstI73 h).trans ((fstI72 h).trans ((fstI71 h).trans ((fstI70 h).trans ((fstI69 h).trans ((fstI68 h).trans ((fstI67 h).trans ((fstI66 h).trans ((fstI65 h).trans ((fstI64 h).trans ((fstI63 h).trans ((fstI62 h).trans ((fstI61 h).trans ((fstI60 h).trans ((fstI59 h).trans ((fstI58 h).trans ((fstI57 h).trans ((fstI56 h).trans ((fstI55 h).trans ((fstI54 h).trans ((fstI53 h).trans ((fstI52 h).trans ((fstI51 h).trans ((fstI50 h).trans ((fstI49 h).trans ((fstI48 h).trans ((fstI47 h).trans ((fstI46 h).trans ((fstI45 h).trans ((fstI44 h).trans ((fstI43 h).trans ((fstI42 h).trans ((fstI41 h).trans ((fstI40 h).trans ((fstI39 h).trans ((fstI38 h).trans ((fstI37 h).trans ((fstI36 h).trans ((fstI35 h).trans ((fstI34 h).trans ((fstI33 h).trans ((fstI32 h).trans ((fstI31 h).trans ((fstI30 h).trans ((fstI29 h).trans ((fstI28 h).trans ((fstI27 h).trans ((fstI26 h).trans ((fstI25 h).trans ((fstI24 h).trans ((fstI23 h).trans ((fstI22 h).trans ((fstI21 h).trans ((fstI20 h).trans ((fstI19 h).trans ((fstI18 h).trans ((fstI17 h).trans ((fstI16 h).trans ((fstI15 h).trans ((fstI14 h).trans ((fstI13 h).trans ((fstI12 h).trans ((fstI11 h).trans ((fstI10 h).trans ((fstI9 h).trans ((fstI8 h).trans ((fstI7 h).trans ((fstI6 h).trans ((fstI5 h).trans ((fstI4 h).trans ((fstI3 h).trans ((fstI2 h).trans (fstI1 h))))))))))))))))))))))))))))))))))))))))))))))))))))))))))))))))))))))))))))))))))))))))))))))))))))))))))))))))))))))))
theorem fstR1 (h : 147 ≤ k) : stR1 k = stR0 k := st_n (by omega)
theorem fstR2 (h : 147 ≤ k) : stR2 k = stR1 k := st_n (by omega)
theorem fstR3 (h : 147 ≤ k) : stR3 k = stR2 k := (st_r (by omega)).trans (st_n (by omega))
theorem fstR4 (h : 147 ≤ k) : stR4 k = stR3 k := (st_n (by omega)).trans (st_r (by omega))
theorem fstR5 (h : 147 ≤ k) : stR5 k = stR4 k := st_n (by omega)
theorem fstR6 (h : 147 ≤ k) : stR6 k = stR5 k := (st_r (by omega)).trans ((st_n (by omega)).trans ((st_r (by omega)).trans ((st_n (by omega)).trans ((st_r (by omega)).trans ((st_n (by omega)).trans ((st_r (by omega)).trans ((st_n (by omega)).trans ((st_r (by omega)).trans (st_n (by omega))))))))))
theorem fstR7 (h : 147 ≤ k) : stR7 k = stR6 k := (st_r (by omega)).trans ((st_n (by omega)).trans ((st_r (by omega)).trans ((st_n (by omega)).trans ((st_r (by omega)).trans ((st_n (by omega)).trans ((st_r (by omega)).trans ((st_n (by omega)).trans ((st_r (by omega)).trans ((st_n (by omega)).trans ((st_r (by omega)).trans (st_n (by omega))))))))))))
theorem fstR8 (h : 147 ≤ k) : stR8 k = stR7 k := (st_r (by omega)).trans ((st_n (by omega)).trans ((st_r (by omega)).trans ((st_n (by omega)).trans ((st_r (by omega)).trans ((st_n (by omega)).trans ((st_r (by omega)).trans ((st_n (by omega)).trans ((st_r (by omega)).trans ((st_n (by omega)).trans ((st_r (by omega)).trans (st_n (by omega))))))))))))
theorem fstR9 (h : 147 ≤ k) : stR9 k = stR8 k := (st_r (by omega)).trans (st_n (by omega))
theorem fstR10 (h : 147 ≤ k) : stR10 k = stR9 k := (st_n (by omega)).trans ((st_r (by omega)).trans ((st_n (by omega)).trans ((st_r (by omega)).trans ((st_n (by omega)).trans ((st_r (by omega)).trans ((st_n (by omega)).trans ((st_r (by omega)).trans ((st_n (by omega)).trans ((st_r (by omega)).trans ((st_n (by omega)).trans (st_r (by omega))))))))))))
theorem fstR11 (h : 147 ≤ k) : stR11 k = stR10 k := st_r (by omega)
theorem fstR12 (h : 147 ≤ k) : stR12 k = stR11 k := st_r (by omega)
theorem fstR13 (h : 147 ≤ k) : stR13 k = stR12 k := (st_n (by omega)).trans (st_r (by omega))
theorem fstR14 (h : 147 ≤ k) : stR14 k = stR13 k := st_r (by omega)
theorem fstR15 (h : 147 ≤ k) : stR15 k = stR14 k := (st_n (by omega)).trans (st_r (by omega))
theorem fstR16 (h : 147 ≤ k) : stR16 k = stR15 k := st_n (by omega)
theorem fstR17 (h : 147 ≤ k) : stR17 k = stR16 k := (st_r (by omega)).trans ((st_n (by omega)).trans ((st_r (by omega)).trans ((st_n (by omega)).trans ((st_r (by omega)).trans ((st_n (by omega)).trans ((st_r (by omega)).trans ((st_n (by omega)).trans ((st_r (by omega)).trans (st_n (by omega))))))))))
theorem fstR18 (h : 147 ≤ k) : stR18 k = stR17 k := (st_r (by omega)).trans ((st_n (by omega)).trans ((st_r (by omega)).trans ((st_n (by omega)).trans ((st_r (by omega)).trans ((st_n (by omega)).trans ((st_r (by omega)).trans ((st_n (by omega)).trans ((st_r (by omega)).trans ((st_n (by omega)).trans ((st_r (by omega)).trans (st_n (by omega))))))))))))
theorem fstR19 (h : 147 ≤ k) : stR19 k = stR18 k := (st_r (by omega)).trans ((st_n (by omega)).trans ((st_r (by omega)).trans ((st_n (by omega)).trans ((st_r (by omega)).trans ((st_n (by omega)).trans ((st_r (by omega)).trans ((st_n (by omega)).trans ((st_r (by omega)).trans ((st_n (by omega)).trans ((st_r (by omega)).trans (st_n (by omega))))))))))))
theorem fstR20 (h : 147 ≤ k) : stR20 k = stR19 k := (st_r (by omega)).trans (st_n (by omega))
theorem fstR21 (h : 147 ≤ k) : stR21 k = stR20 k := (st_n (by omega)).trans ((st_r (by omega)).trans ((st_n (by omega)).trans ((st_r (by omega)).trans ((st_n (by omega)).trans ((st_r (by omega)).trans ((st_n (by omega)).trans ((st_r (by omega)).trans ((st_n (by omega)).trans ((st_r (by omega)).trans ((st_n (by omega)).trans (st_r (by omega))))))))))))
theorem fstR22 (h : 147 ≤ k) : stR22 k = stR21 k := st_r (by omega)
theorem fstR23 (h : 147 ≤ k) : stR23 k = stR22 k := (st_n (by omega)).trans (st_r (by omega))
theorem fstR24 (h : 147 ≤ k) : stR24 k = stR23 k := st_n (by omega)
theorem fstR25 (h : 147 ≤ k) : stR25 k = stR24 k := (st_r (by omega)).trans ((st_n (by omega)).trans ((st_r (by omega)).trans ((st_n (by omega)).trans ((st_r (by omega)).trans ((st_n (by omega)).trans ((st_r (by omega)).trans (st_n (by omega))))))))
theorem fstR26 (h : 147 ≤ k) : stR26 k = stR25 k := rfl
theorem fstR27 (h : 147 ≤ k) : stR27 k = stR26 k := rfl
theorem fstR28 (h : 147 ≤ k) : stR28 k = stR27 k := rfl
theorem fstR29 (h : 147 ≤ k) : stR29 k = stR28 k := rfl
theorem fstR30 (h : 147 ≤ k) : stR30 k = stR29 k := rfl
theorem fstR31 (h : 147 ≤ k) : stR31 k = stR30 k := rfl
theorem fstR32 (h : 147 ≤ k) : stR32 k = stR31 k := rfl
theorem fstR33 (h : 147 ≤ k) : stR33 k = stR32 k := rfl
theorem fstR34 (h : 147 ≤ k) : stR34 k = stR33 k := rfl
theorem fstR35 (h : 147 ≤ k) : stR35 k = stR34 k := rfl
theorem fstR36 (h : 147 ≤ k) : stR36 k = stR35 k := rfl
theorem fstR37 (h : 147 ≤ k) : stR37 k = stR36 k := rfl
theorem fstR38 (h : 147 ≤ k) : stR38 k = stR37 k := rfl
theorem fstR39 (h : 147 ≤ k) : stR39 k = stR38 k := (st_n (by omega)).trans (st_r (by omega))
theorem fstR40 (h : 147 ≤ k) : stR40 k = stR39 k := (st_r (by omega)).trans ((st_n (by omega)).trans ((st_r (by omega)).trans ((st_n (by omega)).trans ((st_r (by omega)).trans ((st_n (by omega)).trans ((st_r (by omega)).trans (st_n (by omega))))))))
theorem fstR41 (h : 147 ≤ k) : stR41 k = stR40 k := rfl
theorem fstR42 (h : 147 ≤ k) : stR42 k = stR41 k := rfl
theorem fstR43 (h : 147 ≤ k) : stR43 k = stR42 k := rfl
theorem fstR44 (h : 147 ≤ k) : stR44 k = stR43 k := rfl
theorem fstR45 (h : 147 ≤ k) : stR45 k = stR44 k := rfl
theorem fstR46 (h : 147 ≤ k) : stR46 k = stR45 k := rfl
theorem fstR47 (h : 147 ≤ k) : stR47 k = stR46 k := rfl
theorem fstR48 (h : 147 ≤ k) : stR48 k = stR47 k := rfl
theorem fstR49 (h : 147 ≤ k) : stR49 k = stR48 k := rfl
theorem fstR50 (h : 147 ≤ k) : stR50 k = stR49 k := rfl
theorem fstR51 (h : 147 ≤ k) : stR51 k = stR50 k := rfl
theorem fstR52 (h : 147 ≤ k) : stR52 k = stR51 k := rfl
theorem fstR53 (h : 147 ≤ k) : stR53 k = stR52 k := rfl
theorem fstR54 (h : 147 ≤ k) : stR54 k = stR53 k := (st_r (by omega)).trans ((st_n (by omega)).trans (st_r (by omega)))
theorem fstR55 (h : 147 ≤ k) : stR55 k = stR54 k := (st_n (by omega)).trans (st_r (by omega))
theorem fstR56 (h : 147 ≤ k) : stR56 k = stR55 k := (st_r (by omega)).trans ((st_n (by omega)).trans ((st_r (by omega)).trans ((st_n (by omega)).trans ((st_r (by omega)).trans ((st_n (by omega)).trans ((st_r (by omega)).trans ((st_n (by omega)).trans ((st_r (by omega)).trans (st_n (by omega))))))))))
theorem fstR57 (h : 147 ≤ k) : stR57 k = stR56 k := (st_r (by omega)).trans ((st_n (by omega)).trans ((st_r (by omega)).trans ((st_n (by omega)).trans ((st_r (by omega)).trans ((st_n (by omega)).trans ((st_r (by omega)).trans ((st_n (by omega)).trans ((st_r (by omega)).trans ((st_n (by omega)).trans ((st_r (by omega)).trans (st_n (by omega))))))))))))
theorem fstR58 (h : 147 ≤ k) : stR58 k = stR57 k := st_r (by omega)
theorem fstR59 (h : 147 ≤ k) : stR59 k = stR58 k := rfl
theorem fstR60 (h : 147 ≤ k) : stR60 k = stR59 k := rfl
theorem fstR61 (h : 147 ≤ k) : stR61 k = stR60 k := rfl
theorem fstR62 (h : 147 ≤ k) : stR62 k = stR61 k := rfl
theorem fstR63 (h : 147 ≤ k) : stR63 k = stR62 k := rfl
theorem fstR64 (h : 147 ≤ k) : stR64 k = stR63 k := rfl
theorem fstR65 (h : 147 ≤ k) : stR65 k = stR64 k := rfl
theorem fstR66 (h : 147 ≤ k) : stR66 k = stR65 k := rfl
theorem fstR67 (h : 147 ≤ k) : stR67 k = stR66 k := rfl
theorem fstR68 (h : 147 ≤ k) : stR68 k = stR67 k := rfl
theorem fstR69 (h : 147 ≤ k) : stR69 k = stR68 k := rfl
theorem fstR70 (h : 147 ≤ k) : stR70 k = stR69 k := rfl
theorem fstR71 (h : 147 ≤ k) : stR71 k = stR70 k := rfl
theorem fstR72 (h : 147 ≤ k) : stR72 k = stR71 k := rfl
theorem fstR73 (h : 147 ≤ k) : stR73 k = stR72 k := rfl
theorem fstR74 (h : 147 ≤ k) : stR74 k = stR73 k := rfl
theorem fstR75 (h : 147 ≤ k) : stR75 k = stR74 k := rfl
theorem fstR76 (h : 147 ≤ k) : stR76 k = stR75 k := rfl
theorem fstR77 (h : 147 ≤ k) : stR77 k = stR76 k := rfl
theorem fstR78 (h : 147 ≤ k) : stR78 k = stR77 k := rfl
theorem fstR79 (h : 147 ≤ k) : stR79 k = stR78 k := rfl
theorem fstR80 (h : 147 ≤ k) : stR80 k = stR79 k := rfl
theorem fstR81 (h : 147 ≤ k) : stR81 k = stR80 k := rfl
theorem fstR82 (h : 147 ≤ k) : stR82 k = stR81 k := rfl
theorem fstR83 (h : 147 ≤ k) : stR83 k = stR82 k := rfl
theorem fstR84 (h : 147 ≤ k) : stR84 k = stR83 k := (st_n (by omega)).trans (st_r (by omega))
theorem fstR85 (h : 147 ≤ k) : stR85 k = stR84 k := (st_r (by omega)).trans ((st_r (by omega)).trans ((st_r (by omega)).trans (st_r (by omega))))
theorem fstR86 (h : 147 ≤ k) : stR86 k = stR85 k := (st_n (by omega)).trans (st_r (by omega))
theorem fstR87 (h : 147 ≤ k) : stR87 k = stR86 k := (st_r (by omega)).trans ((st_r (by omega)).trans ((st_r (by omega)).trans (st_r (by omega))))
theorem fstR88 (h : 147 ≤ k) : stR88 k = stR87 k := (st_r (by omega)).trans ((st_n (by omega)).trans (st_r (by omega)))
theorem fstR89 (h : 147 ≤ k) : stR89 k = stR88 k := st_n (by omega)
theorem fstR90 (h : 147 ≤ k) : stR90 k = stR89 k := (st_r (by omega)).trans ((st_n (by omega)).trans ((st_r (by omega)).trans ((st_n (by omega)).trans ((st_r (by omega)).trans ((st_n (by omega)).trans ((st_r (by omega)).trans ((st_n (by omega)).trans ((st_r (by omega)).trans (st_n (by omega))))))))))
theorem fstR91 (h : 147 ≤ k) : stR91 k = stR90 k := (st_r (by omega)).trans ((st_n (by omega)).trans ((st_r (by omega)).trans ((st_n (by omega)).trans ((st_r (by omega)).trans ((st_n (by omega)).trans ((st_r (by omega)).trans ((st_n (by omega)).trans ((st_r (by omega)).trans ((st_n (by omega)).trans ((st_r (by omega)).trans (st_n (by omega))))))))))))
theorem fstR92 (h : 147 ≤ k) : stR92 k = stR91 k := (st_r (by omega)).trans ((st_n (by omega)).trans ((st_r (by omega)).trans ((st_n (by omega)).trans ((st_r (by omega)).trans ((st_n (by omega)).trans ((st_r (by omega)).trans ((st_n (by omega)).trans ((st_r (by omega)).trans ((st_n (by omega)).trans ((st_r (by omega)).trans (st_n (by omega))))))))))))
theorem fstR93 (h : 147 ≤ k) : stR93 k = stR92 k := (st_r (by omega)).trans ((st_n (by omega)).trans ((st_r (by omega)).trans ((st_n (by omega)).trans ((st_r (by omega)).trans ((st_n (by omega)).trans ((st_r (by omega)).trans ((st_n (by omega)).trans ((st_r (by omega)).trans ((st_n (by omega)).trans ((st_r (by omega)).trans (st_n (by omega))))))))))))
theorem fstR94 (h : 147 ≤ k) : stR94 k = stR93 k := (st_r (by omega)).trans ((st_n (by omega)).trans ((st_r (by omega)).trans ((st_n (by omega)).trans ((st_r (by omega)).trans ((st_n (by omega)).trans ((st_r (by omega)).trans ((st_n (by omega)).trans ((st_r (by omega)).trans ((st_n (by omega)).trans ((st_r (by omega)).trans (st_n (by omega))))))))))))
theorem fstR95 (h : 147 ≤ k) : stR95 k = stR94 k := (st_r (by omega)).trans ((st_n (by omega)).trans ((st_r (by omega)).trans ((st_n (by omega)).trans ((st_r (by omega)).trans ((st_n (by omega)).trans ((st_r (by omega)).trans ((st_n (by omega)).trans ((st_r (by omega)).trans ((st_n (by omega)).trans ((st_r (by omega)).trans (st_n (by omega))))))))))))
theorem fstR96 (h : 147 ≤ k) : stR96 k = stR95 k := (st_r (by omega)).trans ((st_n (by omega)).trans ((st_r (by omega)).trans ((st_n (by omega)).trans ((st_r (by omega)).trans ((st_n (by omega)).trans ((st_r (by omega)).trans ((st_n (by omega)).trans ((st_r (by omega)).trans ((st_n (by omega)).trans ((st_r (by omega)).trans (st_n (by omega))))))))))))
theorem fstR97 (h : 147 ≤ k) : stR97 k = stR96 k := (st_r (by omega)).trans ((st_n (by omega)).trans ((st_r (by omega)).trans ((st_n (by omega)).trans ((st_r (by omega)).trans ((st_n (by omega)).trans ((st_r (by omega)).trans ((st_n (by omega)).trans ((st_r (by omega)).trans ((st_n (by omega)).trans ((st_r (by omega)).trans (st_n (by omega))))))))))))
theorem fstR98 (h : 147 ≤ k) : stR98 k = stR97 k := (st_r (by omega)).trans ((st_n (by omega)).trans ((st_r (by omega)).trans ((st_n (by omega)).trans ((st_r (by omega)).trans ((st_n (by omega)).trans ((st_r (by omega)).trans ((st_n (by omega)).trans ((st_r (by omega)).trans ((st_n (by omega)).trans ((st_r (by omega)).trans (st_n (by omega))))))))))))
theorem fstR99 (h : 147 ≤ k) : stR99 k = stR98 k := (st_r (by omega)).trans ((st_n (by omega)).trans ((st_r (by omega)).trans ((st_n (by omega)).trans ((st_r (by omega)).trans ((st_n (by omega)).trans ((st_r (by omega)).trans ((st_n (by omega)).trans ((st_r (by omega)).trans ((st_n (by omega)).trans ((st_r (by omega)).trans (st_n (by omega))))))))))))
theorem fstR100 (h : 147 ≤ k) : stR100 k = stR99 k := (st_r (by omega)).trans ((st_n (by omega)).trans ((st_r (by omega)).trans ((st_n (by omega)).trans ((st_r (by omega)).trans (st_n (by omega))))))
theorem fstR101 (h : 147 ≤ k) : stR101 k = stR100 k := rfl
theorem fstR102 (h : 147 ≤ k) : stR102 k = stR101 k := rfl
theorem fstR103 (h : 147 ≤ k) : stR103 k = stR102 k := rfl
theorem fstR104 (h : 147 ≤ k) : stR104 k = stR103 k := rfl
theorem fstR105 (h : 147 ≤ k) : stR105 k = stR104 k := rfl
theorem fstR106 (h : 147 ≤ k) : stR106 k = stR105 k := rfl
theorem fstR107 (h : 147 ≤ k) : stR107 k = stR106 k := rfl
theorem fstR108 (h : 147 ≤ k) : stR108 k = stR107 k := rfl
theorem fstR109 (h : 147 ≤ k) : stR109 k = stR108 k := rfl
theorem fstR110 (h : 147 ≤ k) : stR110 k = stR109 k := rfl
theorem fstR111 (h : 147 ≤ k) : stR111 k = stR110 k := rfl
theorem fstR112 (h : 147 ≤ k) : stR112 k = stR111 k := rfl
theorem fstR113 (h : 147 ≤ k) : stR113 k = stR112 k := rfl
theorem fstR114 (h : 147 ≤ k) : stR114 k = stR113 k := rfl
theorem fstR115 (h : 147 ≤ k) : stR115 k = stR114 k := rfl
theorem fstR116 (h : 147 ≤ k) : stR116 k = stR115 k := rfl
theorem fstR117 (h : 147 ≤ k) : stR117 k = stR116 k := rfl
theorem fstR118 (h : 147 ≤ k) : stR118 k = stR117 k := rfl
theorem fstR119 (h : 147 ≤ k) : stR119 k = stR118 k := rfl
theorem fstR120 (h : 147 ≤ k) : stR120 k = stR119 k := rfl
theorem fstR121 (h : 147 ≤ k) : stR121 k = stR120 k := st_n (by omega)
set_option maxRecDepth 20000 in
theorem fstR_all (h : 147 ≤ k) : stR121 k = stR0 k := (fstR121 h).trans ((fstR120 h).trans ((fstR119 h).trans ((fstR118 h).trans ((fstR117 h).trans ((fstR116 h).trans ((fstR115 h).trans ((fstR114 h).trans ((fstR113 h).trans ((fstR112 h).trans ((fstR111 h).trans ((fstR110 h).trans ((fstR109 h).trans ((fstR108 h).trans ((fstR107 h).trans ((fstR106 h).trans ((fstR105 h).trans ((fstR104 h).trans ((fstR103 h).trans ((fstR102 h).trans ((fstR101 h).trans ((fstR100 h).trans ((fstR99 h).trans ((fstR98 h).trans ((fstR97 h).trans ((fstR96 h).trans ((fstR95 h).trans ((fstR94 h).trans ((fstR93 h).trans ((fstR92 h).trans ((fstR91 h).trans ((fstR90 h).trans ((fstR89 h).trans ((fstR88 h).trans ((fstR87 h).trans ((fstR86 h).trans ((fstR85 h).trans ((fstR84 h).trans ((fstR83 h).trans ((fstR82 h).trans ((fstR81 h).trans ((fstR80 h).trans ((fstR79 h).trans ((fstR78 h).trans ((fstR77 h).trans ((fstR76 h).trans ((fstR75 h).trans ((fstR74 h).trans ((fstR73 h).trans ((fstR72 h).trans ((fstR71 h).trans ((fstR70 h).trans ((fstR69 h).trans ((fstR68 h).trans ((fstR67 h).trans ((fstR66 h).trans ((fstR65 h).trans ((fstR64 h).trans ((fstR63 h).trans ((fstR62 h).trans ((fstR61 h).trans ((fstR60 h).trans ((fstR59 h).trans ((fstR58 h).trans ((fstR57 h).trans ((fstR56 h).trans ((fstR55 h).trans ((fstR54 h).trans ((fstR53 h).trans ((fstR52 h).trans ((fstR51 h).trans ((fstR50 h).trans ((fstR49 h).trans ((fstR48 h).trans ((fstR47 h).trans ((fstR46 h).trans ((fstR45 h).trans ((fstR44 h).trans ((fstR43 h).trans ((fstR42 h).trans ((fstR41 h).trans ((fstR40 h).trans ((fstR39 h).trans ((fstR38 h).trans ((fstR37 h).trans ((fstR36 h).trans ((fstR35 h).trans ((fstR34 h).trans ((fstR33 h).trans ((fstR32 h).trans ((fstR31 h).trans ((fstR30 h).trans ((fstR29 h).trans ((fstR28 h).trans ((fstR27 h).trans ((fstR26 h).trans ((fstR25 h).trans ((fstR24 h).trans ((fstR23 h).trans ((fstR22 h).trans ((fstR21 h).trans ((fstR20 h).trans ((fstR19 h).trans ((fstR18 h).trans ((fstR17 h).trans ((fstR16 h).trans ((fstR15 h).trans ((fstR14 h).trans ((fstR13 h).trans ((fstR12 h).trans ((fstR11 h).trans ((fstR10 h).trans ((fstR9 h).trans ((fstR8 h).trans ((fstR7 h).trans ((fstR6 h).trans ((fstR5 h).trans ((fstR4 h).trans ((fstR3 h).trans ((fstR2 h).trans (fstR1 h))))))))))))))))))))))))))))))))))))))))))))))))))))))))))))))))))))))))))))))))))))))))))))))))))))))))))))))))))))))))
set_option maxRecDepth 20000 in
theorem st_T : stT121 n = mm_T0 n := by
  funext k
  match k with
  | 0 => rfl
  | 1 => rfl
  | 2 => rfl
  | 3 => rfl
  | 4 => rfl
  | 5 => rfl
  | 6 => rfl
  | 7 => rfl
  | 8 => rfl
  | 9 => rfl
  | 10 => rfl
  | 11 => rfl
  | 12 => rfl
  | 13 => rfl
  | 14 => rfl
  | 15 => rfl
  | 16 => rfl
  | 17 => rfl
  | 18 => rfl
  | 19 => rfl
  | 20 => rfl
  | 21 => rfl
  | 22 => rfl
  | 23 => rfl
  | 24 => rfl
  | 25 => rfl
  | 26 => rfl
  | 27 => rfl
  | 28 => rfl
  | 29 => rfl
  | 30 => rfl
  | 31 => rfl
  | 32 => rfl
  | 33 => rfl
  | 34 => rfl
  | 35 => rfl
  | 36 => rfl
  | 37 => rfl
  | 38 => rfl
  | 39 => rfl
  | 40 => rfl
  | 41 => rfl
  | 42 => rfl
  | 43 => rfl
  | 44 => rfl
  | 45 => rfl
  | 46 => rfl
  | 47 => rfl
  | 48 => rfl
  | 49 => rfl
  | 50 => rfl
  | 51 => rfl
  | 52 => rfl
  | 53 => rfl
  | 54 => rfl
  | 55 => rfl
  | 56 => rfl
  | 57 => rfl
  | 58 => rfl
  | 59 => rfl
  | 60 => rfl
  | 61 => rfl
  | 62 => rfl
  | 63 => rfl
  | 64 => rfl
  | 65 => rfl
  | 66 => rfl
  | 67 => rfl
  | 68 => rfl
  | 69 => rfl
  | 70 => rfl
  | 71 => rfl
  | 72 => rfl
  | 73 => rfl
  | 74 => rfl
  | 75 => rfl
  | 76 => rfl
  | 77 => rfl
  | 78 => rfl
  | 79 => rfl
  | 80 => rfl
  | 81 => rfl
  | 82 => rfl
  | 83 => rfl
  | 84 => rfl
  | 85 => rfl
  | 86 => rfl
  | 87 => rfl
  | 88 => rfl
  | 89 => rfl
  | 90 => rfl
  | 91 => rfl
  | 92 => rfl
  | 93 => rfl
  | 94 => rfl
  | 95 => rfl
  | 96 => rfl
  | 97 => rfl
  | 98 => rfl
  | 99 => rfl
  | 100 => rfl
  | 101 => rfl
  | 102 => rfl
  | 103 => rfl
  | 104 => rfl
  | 105 => rfl
  | 106 => rfl
  | 107 => rfl
  | 108 => rfl
  | 109 => rfl
  | 110 => rfl
  | 111 => rfl
  | 112 => rfl
  | 113 => rfl
  | 114 => rfl
  | 115 => rfl
  | 116 => rfl
  | 117 => rfl
  | 118 => rfl
  | 119 => rfl
  | 120 => rfl
  | 121 => rfl
  | 122 => rfl
  | 123 => rfl
  | 124 => rfl
  | 125 => rfl
  | 126 => rfl
  | 127 => rfl
  | 128 => rfl
  | 129 => rfl
  | 130 => rfl
  | 131 => rfl
  | 132 => rfl
  | 133 => rfl
  | 134 => rfl
  | 135 => rfl
  | 136 => rfl
  | 137 => rfl
  | 138 => rfl
  | 139 => rfl
  | 140 => rfl
  | 141 => rfl
  | 142 => rfl
  | 143 => rfl
  | 144 => rfl
  | 145 => rfl
  | 146 => rfl
  | k + 147 => exact fstT_all (by omega)
set_option maxRecDepth 20000 in
theorem st_R_0 : stR121 0 = mm_R0 true 0 := by
  funext j
  match j with
  | 0 => rfl
  | 1 => rfl
  | 2 => rfl
  | 3 => rfl
  | 4 => rfl
  | 5 => rfl
  | 6 => rfl
  | 7 => rfl
  | 8 => rfl
  | 9 => rfl
  | j + 10 => rfl
set_option maxRecDepth 20000 in
theorem st_R_1 : stR121 1 = mm_R0 true 1 := by
  funext j
  match j with
  | 0 => rfl
  | 1 => rfl
  | j + 2 => rfl
set_option maxRecDepth 20000 in
theorem st_R_3 : stR121 3 = mm_R0 true 3 := by
  funext j
  match j with
  | 0 => rfl
  | 1 => rfl
  | 2 => rfl
  | 3 => rfl
  | 4 => rfl
  | 5 => rfl
  | 6 => rfl
  | 7 => rfl
  | 8 => rfl
  | 9 => rfl
  | j + 10 => rfl
set_option maxRecDepth 20000 in
theorem st_R_4 : stR121 4 = mm_R0 true 4 := by
  funext j
  match j with
  | 0 => rfl
  | 1 => rfl
  | 2 => rfl
  | 3 => rfl
  | 4 => rfl
  | 5 => rfl
  | 6 => rfl
  | 7 => rfl
  | 8 => rfl
  | 9 => rfl
  | 10 => rfl
  | 11 => rfl
  | 12 => rfl
  | 13 => rfl
  | 14 => rfl
  | 15 => rfl
  | 16 => rfl
  | 17 => rfl
  | 18 => rfl
  | j + 19 => rfl
set_option maxRecDepth 20000 in
theorem st_R_28 : stR121 28 = mm_R0 true 28 := by
  funext j
  match j with
  | 0 => rfl
  | 1 => rfl
  | 2 => rfl
  | 3 => rfl
  | 4 => rfl
  | j + 5 => rfl
set_option maxRecDepth 20000 in
theorem st_R_29 : stR121 29 = mm_R0 true 29 := by
  funext j
  match j with
  | 0 => rfl
  | 1 => rfl
  | 2 => rfl
  | 3 => rfl
  | 4 => rfl
  | 5 => rfl
  | 6 => rfl
  | 7 => rfl
  | 8 => rfl
  | 9 => rfl
  | j + 10 => rfl
set_option maxRecDepth 20000 in
theorem st_R_30 : stR121 30 = mm_R0 true 30 := by
  funext j
  match j with
  | 0 => rfl
  | 1 => rfl
  | 2 => rfl
  | 3 => rfl
  | 4 => rfl
  | 5 => rfl
  | 6 => rfl
  | 7 => rfl
  | 8 => rfl
  | 9 => rfl
  | 10 => rfl
  | 11 => rfl
  | 12 => rfl
  | j + 13 => rfl
set_option maxRecDepth 20000 in
theorem st_R_31 : stR121 31 = mm_R0 true 31 := by
  funext j
  match j with
  | 0 => rfl
  | 1 => rfl
  | 2 => rfl
  | 3 => rfl
  | 4 => rfl
  | 5 => rfl
  | 6 => rfl
  | 7 => rfl
  | 8 => rfl
  | 9 => rfl
  | 10 => rfl
  | 11 => rfl
  | 12 => rfl
  | 13 => rfl
  | 14 => rfl
  | 15 => rfl
  | 16 => rfl
  | 17 => rfl
  | 18 => rfl
  | j + 19 => rfl
set_option maxRecDepth 20000 in
theorem st_R_56 : stR121 56 = mm_R0 true 56 := by
  funext j
  match j with
  | 0 => rfl
  | 1 => rfl
  | 2 => rfl
  | 3 => rfl
  | j + 4 => rfl
set_option maxRecDepth 20000 in
theorem st_R_57 : stR121 57 = mm_R0 true 57 := by
  funext j
  match j with
  | 0 => rfl
  | 1 => rfl
  | 2 => rfl
  | 3 => rfl
  | j + 4 => rfl
set_option maxRecDepth 20000 in
theorem st_R_62 : stR121 62 = mm_R0 true 62 := by
  funext j
  match j with
  | 0 => rfl
  | 1 => rfl
  | 2 => rfl
  | 3 => rfl
  | j + 4 => rfl
set_option maxRecDepth 20000 in
theorem st_R_68 : stR121 68 = mm_R0 true 68 := by
  funext j
  match j with
  | 0 => rfl
  | 1 => rfl
  | 2 => rfl
  | 3 => rfl
  | 4 => rfl
  | 5 => rfl
  | 6 => rfl
  | 7 => rfl
  | 8 => rfl
  | 9 => rfl
  | 10 => rfl
  | 11 => rfl
  | j + 12 => rfl
set_option maxRecDepth 20000 in
theorem st_R_80 : stR121 80 = mm_R0 true 80 := by
  funext j
  match j with
  | 0 => rfl
  | 1 => rfl
  | 2 => rfl
  | 3 => rfl
  | 4 => rfl
  | 5 => rfl
  | j + 6 => rfl
set_option maxRecDepth 20000 in
theorem st_R_81 : stR121 81 = mm_R0 true 81 := by
  funext j
  match j with
  | 0 => rfl
  | 1 => rfl
  | 2 => rfl
  | 3 => rfl
  | j + 4 => rfl
set_option maxRecDepth 20000 in
theorem st_R_83 : stR121 83 = mm_R0 true 83 := by
  funext j
  match j with
  | 0 => rfl
  | 1 => rfl
  | 2 => rfl
  | 3 => rfl
  | 4 => rfl
  | 5 => rfl
  | 6 => rfl
  | 7 => rfl
  | 8 => rfl
  | 9 => rfl
  | 10 => rfl
  | 11 => rfl
  | 12 => rfl
  | 13 => rfl
  | 14 => rfl
  | 15 => rfl
  | 16 => rfl
  | 17 => rfl
  | 18 => rfl
  | 19 => rfl
  | 20 => rfl
  | 21 => rfl
  | 22 => rfl
  | 23 => rfl
  | 24 => rfl
  | 25 => rfl
  | 26 => rfl
  | 27 => rfl
  | 28 => rfl
  | 29 => rfl
  | 30 => rfl
  | 31 => rfl
  | 32 => rfl
  | 33 => rfl
  | 34 => rfl
  | 35 => rfl
  | 36 => rfl
  | 37 => rfl
  | 38 => rfl
  | 39 => rfl
  | 40 => rfl
  | 41 => rfl
  | 42 => rfl
  | 43 => rfl
  | 44 => rfl
  | 45 => rfl
  | 46 => rfl
  | 47 => rfl
  | 48 => rfl
  | 49 => rfl
  | 50 => rfl
  | 51 => rfl
  | 52 => rfl
  | 53 => rfl
  | 54 => rfl
  | 55 => rfl
  | 56 => rfl
  | 57 => rfl
  | 58 => rfl
  | 59 => rfl
  | 60 => rfl
  | 61 => rfl
  | 62 => rfl
  | 63 => rfl
  | 64 => rfl
  | 65 => rfl
  | 66 => rfl
  | 67 => rfl
  | 68 => rfl
  | 69 => rfl
  | 70 => rfl
  | 71 => rfl
  | 72 => rfl
  | 73 => rfl
  | 74 => rfl
  | 75 => rfl
  | 76 => rfl
  | 77 => rfl
  | 78 => rfl
  | 79 => rfl
  | 80 => rfl
  | 81 => rfl
  | 82 => rfl
  | 83 => rfl
  | 84 => rfl
  | 85 => rfl
  | 86 => rfl
  | 87 => rfl
  | 88 => rfl
  | 89 => rfl
  | 90 => rfl
  | 91 => rfl
  | 92 => rfl
  | 93 => rfl
  | 94 => rfl
  | 95 => rfl
  | 96 => rfl
  | j + 97 => rfl
set_option maxRecDepth 20000 in
theorem st_R : stR121 = mm_R0 true := by
  funext k
  match k with
  | 0 => exact st_R_0
  | 1 => exact st_R_1
  | 2 => rfl
  | 3 => exact st_R_3
  | 4 => exact st_R_4
  | 5 => rfl
  | 6 => rfl
  | 7 => rfl
  | 8 => rfl
  | 9 => rfl
  | 10 => rfl
  | 11 => rfl
  | 12 => rfl
  | 13 => rfl
  | 14 => rfl
  | 15 => rfl
  | 16 => rfl
  | 17 => rfl
  | 18 => rfl
  | 19 => rfl
  | 20 => rfl
  | 21 => rfl
  | 22 => rfl
  | 23 => rfl
  | 24 => rfl
  | 25 => rfl
  | 26 => rfl
  | 27 => rfl
  | 28 => exact st_R_28
  | 29 => exact st_R_29
  | 30 => exact st_R_30
  | 31 => exact st_R_31
  | 32 => rfl
  | 33 => rfl
  | 34 => rfl
  | 35 => rfl
  | 36 => rfl
  | 37 => rfl
  | 38 => rfl
  | 39 => rfl
  | 40 => rfl
  | 41 => rfl
  | 42 => rfl
  | 43 => rfl
  | 44 => rfl
  | 45 => rfl
  | 46 => rfl
  | 47 => rfl
  | 48 => rfl
  | 49 => rfl
  | 50 => rfl
  | 51 => rfl
  | 52 => rfl
  | 53 => rfl
  | 54 => rfl
  | 55 => rfl
  | 56 => exact st_R_56
  | 57 => exact st_R_57
  | 58 => rfl
  | 59 => rfl
  | 60 => rfl
  | 61 => rfl
  | 62 => exact st_R_62
  | 63 => rfl
  | 64 => rfl
  | 65 => rfl
  | 66 => rfl
  | 67 => rfl
  | 68 => exact st_R_68
  | 69 => rfl
  | 70 => rfl
  | 71 => rfl
  | 72 => rfl
  | 73 => rfl
  | 74 => rfl
  | 75 => rfl
  | 76 => rfl
  | 77 => rfl
  | 78 => rfl
  | 79 => rfl
  | 80 => exact st_R_80
  | 81 => exact st_R_81
  | 82 => rfl
  | 83 => exact st_R_83
  | 84 => rfl
  | 85 => rfl
  | 86 => rfl
  | 87 => rfl
  | 88 => rfl
  | 89 => rfl
  | 90 => rfl
  | 91 => rfl
  | 92 => rfl
  | 93 => rfl
  | 94 => rfl
  | 95 => rfl
  | 96 => rfl
  | 97 => rfl
  | 98 => rfl
  | 99 => rfl
  | 100 => rfl
  | 101 => rfl
  | 102 => rfl
  | 103 => rfl
  | 104 => rfl
  | 105 => rfl
  | 106 => rfl
  | 107 => rfl
  | 108 => rfl
  | 109 => rfl
  | 110 => rfl
  | 111 => rfl
  | 112 => rfl
  | 113 => rfl
  | 114 => rfl
  | 115 => rfl
  | 116 => rfl
  | 117 => rfl
  | 118 => rfl
  | 119 => rfl
  | 120 => rfl
  | 121 => rfl
  | 122 => rfl
  | 123 => rfl
  | 124 => rfl
  | 125 => rfl
  | 126 => rfl
  | 127 => rfl
  | 128 => rfl
  | 129 => rfl
  | 130 => rfl
  | 131 => rfl
  | 132 => rfl
  | 133 => rfl
  | 134 => rfl
  | 135 => rfl
  | 136 => rfl
  | 137 => rfl
  | 138 => rfl
  | 139 => rfl
  | 140 => rfl
  | 141 => rfl
  | 142 => rfl
  | 143 => rfl
  | 144 => rfl
  | 145 => rfl
  | 146 => rfl
  | k + 147 =>
    rw [fstR_all (by omega)]
    rfl
set_option maxRecDepth 20000 in
theorem ri_58 : ∀ k, k < 32 → stI121 i 58 k = -1
  | 0, _ => rfl
  | 1, _ => rfl
  | 2, _ => rfl
  | 3, _ => rfl
  | 4, _ => rfl
  | 5, _ => rfl
  | 6, _ => rfl
  | 7, _ => rfl
  | 8, _ => rfl
  | 9, _ => rfl
  | 10, _ => rfl
  | 11, _ => rfl
  | 12, _ => rfl
  | 13, _ => rfl
  | 14, _ => rfl
  | 15, _ => rfl
  | 16, _ => rfl
  | 17, _ => rfl
  | 18, _ => rfl
  | 19, _ => rfl
  | 20, _ => rfl
  | 21, _ => rfl
  | 22, _ => rfl
  | 23, _ => rfl
  | 24, _ => rfl
  | 25, _ => rfl
  | 26, _ => rfl
  | 27, _ => rfl
  | 28, _ => rfl
  | 29, _ => rfl
  | 30, _ => rfl
  | 31, _ => rfl
  | k + 32, h => absurd h (by omega)
set_option maxRecDepth 20000 in
theorem ri_69 : ∀ k, k < 8 → stI121 i 69 k = -1
  | 0, _ => rfl
  | 1, _ => rfl
  | 2, _ => rfl
  | 3, _ => rfl
  | 4, _ => rfl
  | 5, _ => rfl
  | 6, _ => rfl
  | 7, _ => rfl
  | k + 8, h => absurd h (by omega)
set_option maxRecDepth 20000 in
theorem ri_70 : ∀ k, k < 48 → stI121 i 70 k = -1
  | 0, _ => rfl
  | 1, _ => rfl
  | 2, _ => rfl
  | 3, _ => rfl
  | 4, _ => rfl
  | 5, _ => rfl
  | 6, _ => rfl
  | 7, _ => rfl
  | 8, _ => rfl
  | 9, _ => rfl
  | 10, _ => rfl
  | 11, _ => rfl
  | 12, _ => rfl
  | 13, _ => rfl
  | 14, _ => rfl
  | 15, _ => rfl
  | 16, _ => rfl
  | 17, _ => rfl
  | 18, _ => rfl
  | 19, _ => rfl
  | 20, _ => rfl
  | 21, _ => rfl
  | 22, _ => rfl
  | 23, _ => rfl
  | 24, _ => rfl
  | 25, _ => rfl
  | 26, _ => rfl
  | 27, _ => rfl
  | 28, _ => rfl
  | 29, _ => rfl
  | 30, _ => rfl
  | 31, _ => rfl
  | 32, _ => rfl
  | 33, _ => rfl
  | 34, _ => rfl
  | 35, _ => rfl
  | 36, _ => rfl
  | 37, _ => rfl
  | 38, _ => rfl
  | 39, _ => rfl
  | 40, _ => rfl
  | 41, _ => rfl
  | 42, _ => rfl
  | 43, _ => rfl
  | 44, _ => rfl
  | 45, _ => rfl
  | 46, _ => rfl
  | 47, _ => rfl
  | k + 48, h => absurd h (by omega)
set_option maxRecDepth 20000 in
theorem ri_77 : ∀ k, k < 4 → stI121 i 77 k = -1
  | 0, _ => rfl
  | 1, _ => rfl
  | 2, _ => rfl
  | 3, _ => rfl
  | k + 4, h => absurd h (by omega)
set_option maxRecDepth 20000 in
theorem ri_0 : stI121 i 0 = fun _ => 0 := rfl
set_option maxRecDepth 20000 in
theorem ri_1 : stI121 i 1 = fun _ => 0 := rfl
set_option maxRecDepth 20000 in
theorem ri_30 : stI121 i 30 = fun _ => 0 := rfl
set_option maxRecDepth 20000 in
theorem ri_56 : stI121 i 56 = fun _ => 0 := rfl
set_option maxRecDepth 20000 in
theorem ri_59 : stI121 i 59 = fun _ => 0 := rfl
set_option maxRecDepth 20000 in
theorem ri_60 : stI121 i 60 = fun _ => 0 := rfl
set_option maxRecDepth 20000 in
theorem ri_71 : stI121 i 71 = fun _ => 0 := rfl
set_option maxRecDepth 20000 in
theorem ri_83 : stI121 i 83 = fun _ => 0 := rfl
set_option maxRecDepth 20000 in
theorem ri_113 : stI121 i 113 = fun _ => 0 := rfl
set_option maxRecDepth 20000 in
theorem ri_114 : stI121 i 114 = fun _ => 0 := rfl
set_option maxRecDepth 20000 in
theorem ri_115 : stI121 i 115 = fun _ => 0 := rfl
set_option maxRecDepth 20000 in
theorem ri_86_0 : ∀ k, k < 10 → stI121 i 86 (10 * 0 + k) = nI (rPt 0 k)
  | 0, _ => rfl
  | 1, _ => rfl
  | 2, _ => rfl
  | 3, _ => rfl
  | 4, _ => rfl
  | 5, _ => rfl
  | 6, _ => rfl
  | 7, _ => rfl
  | 8, _ => rfl
  | 9, _ => rfl
  | k + 10, h => absurd h (by omega)
set_option maxRecDepth 20000 in
theorem ri_86_1 : ∀ k, k < 9 → stI121 i 86 (10 * 1 + k) = nI (rPt 1 k)
  | 0, _ => rfl
  | 1, _ => rfl
  | 2, _ => rfl
  | 3, _ => rfl
  | 4, _ => rfl
  | 5, _ => rfl
  | 6, _ => rfl
  | 7, _ => rfl
  | 8, _ => rfl
  | k + 9, h => absurd h (by omega)
set_option maxRecDepth 20000 in
theorem ri_86_2 : ∀ k, k < 5 → stI121 i 86 (10 * 2 + k) = nI (rPt 2 k)
  | 0, _ => rfl
  | 1, _ => rfl
  | 2, _ => rfl
  | 3, _ => rfl
  | 4, _ => rfl
  | k + 5, h => absurd h (by omega)
set_option maxRecDepth 20000 in
theorem ri_86_3 : ∀ k, k < 3 → stI121 i 86 (10 * 3 + k) = nI (rPt 3 k)
  | 0, _ => rfl
  | 1, _ => rfl
  | 2, _ => rfl
  | k + 3, h => absurd h (by omega)
set_option maxRecDepth 20000 in
theorem ri_86_4 : ∀ k, k < 1 → stI121 i 86 (10 * 4 + k) = nI (rPt 4 k)
  | 0, _ => rfl
  | k + 1, h => absurd h (by omega)
set_option maxRecDepth 20000 in
theorem ri_86 : ∀ c, c < 5 → ∀ k, k < mnO c → stI121 i 86 (10 * c + k) = nI (rPt c k)
  | 0, _ => ri_86_0
  | 1, _ => ri_86_1
  | 2, _ => ri_86_2
  | 3, _ => ri_86_3
  | 4, _ => ri_86_4
  | c + 5, h => absurd h (by omega)
set_option maxRecDepth 20000 in
theorem rl_85 : ∀ k, k < 60 → stL121 85 k = lN (rWd k)
  | 0, _ => rfl
  | 1, _ => rfl
  | 2, _ => rfl
  | 3, _ => rfl
  | 4, _ => rfl
  | 5, _ => rfl
  | 6, _ => rfl
  | 7, _ => rfl
  | 8, _ => rfl
  | 9, _ => rfl
  | 10, _ => rfl
  | 11, _ => rfl
  | 12, _ => rfl
  | 13, _ => rfl
  | 14, _ => rfl
  | 15, _ => rfl
  | 16, _ => rfl
  | 17, _ => rfl
  | 18, _ => rfl
  | 19, _ => rfl
  | 20, _ => rfl
  | 21, _ => rfl
  | 22, _ => rfl
  | 23, _ => rfl
  | 24, _ => rfl
  | 25, _ => rfl
  | 26, _ => rfl
  | 27, _ => rfl
  | 28, _ => rfl
  | 29, _ => rfl
  | 30, _ => rfl
  | 31, _ => rfl
  | 32, _ => rfl
  | 33, _ => rfl
  | 34, _ => rfl
  | 35, _ => rfl
  | 36, _ => rfl
  | 37, _ => rfl
  | 38, _ => rfl
  | 39, _ => rfl
  | 40, _ => rfl
  | 41, _ => rfl
  | 42, _ => rfl
  | 43, _ => rfl
  | 44, _ => rfl
  | 45, _ => rfl
  | 46, _ => rfl
  | 47, _ => rfl
  | 48, _ => rfl
  | 49, _ => rfl
  | 50, _ => rfl
  | 51, _ => rfl
  | 52, _ => rfl
  | 53, _ => rfl
  | 54, _ => rfl
  | 55, _ => rfl
  | 56, _ => rfl
  | 57, _ => rfl
  | 58, _ => rfl
  | 59, _ => rfl
  | k + 60, h => absurd h (by omega)
set_option maxRecDepth 20000 in
theorem rl_130 : ∀ k, k < 25 → stL121 130 k = lN (eWr k)
  | 0, _ => rfl
  | 1, _ => rfl
  | 2, _ => rfl
  | 3, _ => rfl
  | 4, _ => rfl
  | 5, _ => rfl
  | 6, _ => rfl
  | 7, _ => rfl
  | 8, _ => rfl
  | 9, _ => rfl
  | 10, _ => rfl
  | 11, _ => rfl
  | 12, _ => rfl
  | 13, _ => rfl
  | 14, _ => rfl
  | 15, _ => rfl
  | 16, _ => rfl
  | 17, _ => rfl
  | 18, _ => rfl
  | 19, _ => rfl
  | 20, _ => rfl
  | 21, _ => rfl
  | 22, _ => rfl
  | 23, _ => rfl
  | 24, _ => rfl
  | k + 25, h => absurd h (by omega)
theorem st_WD (hS : ST i) (hE : ES i) : WD true (stI121 i) stL121 0 (0, fun _ => 0) none [] := by
  have z0 : ∀ c j, stI121 i c = (fun _ => 0) → stI121 i c j = nI 0 := fun c j h => by rw [h]; rfl
  have m1 : (-1 : Int32) = nI 0 - 1 := by decide
  have far : ∀ k j, 147 ≤ k → stI121 i k j = i k j := fun k j h => by rw [fstI_all h]; rfl
  refine ⟨⟨⟨z0 1 1 ri_1, fun k hk => absurd (show k < 0 from hk) (by omega)⟩, ⟨fun n hn => ⟨(ri_58 n hn).trans m1, z0 59 n ri_59, z0 60 n ri_60, fun z => absurd (show (0 : Nat) = 1 from z) (by decide), fun z => absurd (show (0 : Nat) = 2 from z) (by decide)⟩, ⟨z0 56 3 ri_56, fun k q hq => by cases hq⟩, ⟨fun p hp => (ri_69 p hp).trans m1, fun k hk => (ri_70 k hk).trans m1, fun o ho => ⟨by rw [zH_ct]; exact z0 71 o ri_71, fun z => absurd zH_ct z⟩, fun k hk => ⟨(ri_77 k hk).trans m1, fun z => absurd rfl z⟩⟩, ⟨⟨z0 30 3 ri_30, fun k hk => absurd (show k < 0 from hk) (by omega)⟩, ⟨z0 30 8 ri_30, fun k hk => absurd (show k < 0 from hk) (by omega)⟩, ⟨z0 30 10 ri_30, fun k hk => absurd (show k < 0 from hk) (by omega)⟩, z0 30 11 ri_30, z0 30 12 ri_30⟩, z0 30 1 ri_30⟩, ⟨z0 0 9 ri_0, fun k v hk => by cases hk⟩⟩, ⟨⟨z0 83 2 ri_83, fun k hk => absurd (show k < 0 from hk) (by omega)⟩, ⟨fun n hn => ⟨z0 113 n ri_113, z0 114 n ri_114, z0 115 n ri_115, fun z => absurd (show (0 : Nat) = 1 from z) (by decide), fun z => absurd (show (0 : Nat) = 2 from z) (by decide)⟩, ⟨z0 83 57 ri_83, fun k q hq => by cases hq⟩, ⟨⟨z0 83 79 ri_83, fun k hk => absurd (show k < 0 from hk) (by omega)⟩, ⟨z0 83 86 ri_83, fun k hk => absurd (show k < 0 from hk) (by omega)⟩, ⟨z0 83 91 ri_83, fun k hk => absurd (show k < 0 from hk) (by omega)⟩, z0 83 84 ri_83, z0 83 85 ri_83⟩, z0 83 5 ri_83⟩, ⟨z0 83 77 ri_83, fun k v hk => by cases hk⟩⟩, ⟨⟨fun s hs => by rw [far _ _ (by omega)]; exact hS.1 s hs, fun s hs => by rw [far _ _ (by omega)]; exact hS.2 s hs⟩, fun k hk => by rw [far _ _ (by omega)]; exact hE k hk, ri_86, rl_85, rl_130⟩, ⟨⟨Nat.zero_le _, fun k hk => absurd (show k < 0 from hk) (by omega)⟩, trivial, trivial, Nat.zero_le _⟩⟩

set_option maxRecDepth 20000 in
theorem law_run {m : Nat} (hm : m ≤ 2560) (hS : ST i) (hE : ES i) : ∃ w' i' l' e', mm_V 360 0 [some (.ref 1000000), none, none, none, none, none, none] [] (mm_ts m, i, fun _ _ => 0, fun _ _ => .null, 0, true, 0, 0) = some (.inl (some (.int 1)), mm_Z m w' i' l' e') ∧ e'.2.1 ≤ 659 ∧ e'.2.2 ≤ 28129 := by
  have h := zs_all (n := m) (i := i)
  rw [st_T, st_R] at h
  have h : mm_V 360 0 [some (.ref 1000000), none, none, none, none, none, none] [] (mm_ts m, i, fun _ _ => 0, fun _ _ => .null, 0, true, 0, 0) = mm_V 360 23 [some (.ref 1000000), some (.ref 0), some (.ref 83), some (.ref 146), some (.int 0), none, none] [] (mm_Z m true (stI121 i) stL121 (true, 147, 25057)) := h
  obtain ⟨w', i', l', e', k1, k2, k3⟩ := lw_loop (m := m) (stI121 i 1000000) 512 0 0 true (stI121 i) stL121 (true, 147, 25057) (0, fun _ => 0) none [] none none (by omega) (by omega) (by omega) (st_WD hS hE) (fun j => rfl) (by omega)
  have k1 : mm_V 360 23 [some (.ref 1000000), some (.ref 0), some (.ref 83), some (.ref 146), some (.int 0), none, none] [] (mm_Z m true (stI121 i) stL121 (true, 147, 25057)) = _ := k1
  exact ⟨w', i', l', e', h.trans k1, k2, k3⟩
end MM221
