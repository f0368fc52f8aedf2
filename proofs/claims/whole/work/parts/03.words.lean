set_option maxRecDepth 20000 in
theorem ga_1 : GoodIn lw_tbl wsA_1 := goodIn_of _ (by decide +kernel)
set_option maxRecDepth 20000 in
theorem ga_2 : GoodIn lw_tbl wsA_2 := goodIn_of _ (by decide +kernel)
set_option maxRecDepth 20000 in
theorem ga_3 : GoodIn lw_tbl wsA_3 := goodIn_of _ (by decide +kernel)
set_option maxRecDepth 20000 in
theorem ga_4 : GoodIn lw_tbl wsA_4 := goodIn_of _ (by decide +kernel)
set_option maxRecDepth 20000 in
theorem ga_5 : GoodIn lw_tbl wsA_5 := goodIn_of _ (by decide +kernel)
set_option maxRecDepth 20000 in
theorem ga_6 : GoodIn lw_tbl wsA_6 := goodIn_of _ (by decide +kernel)
set_option maxRecDepth 20000 in
theorem ga_7 : GoodIn lw_tbl wsA_7 := goodIn_of _ (by decide +kernel)
set_option maxRecDepth 20000 in
theorem ga_8 : GoodIn lw_tbl wsA_8 := goodIn_of _ (by decide +kernel)
set_option maxRecDepth 20000 in
theorem ga_9 : GoodIn lw_tbl wsA_9 := goodIn_of _ (by decide +kernel)
set_option maxRecDepth 20000 in
theorem ga_10 : GoodIn lw_tbl wsA_10 := goodIn_of _ (by decide +kernel)
set_option maxRecDepth 20000 in
theorem ga_11 : GoodIn lw_tbl wsA_11 := goodIn_of _ (by decide +kernel)
set_option maxRecDepth 20000 in
theorem ga_12 : GoodIn lw_tbl wsA_12 := goodIn_of _ (by decide +kernel)
set_option maxRecDepth 20000 in
theorem ga_13 : GoodIn lw_tbl wsA_13 := goodIn_of _ (by decide +kernel)
set_option maxRecDepth 20000 in
theorem ga_14 : GoodIn lw_tbl wsA_14 := goodIn_of _ (by decide +kernel)
set_option maxRecDepth 20000 in
theorem ga_15 : GoodIn lw_tbl wsA_15 := goodIn_of _ (by decide +kernel)
set_option maxRecDepth 20000 in
theorem ga_16 : GoodIn lw_tbl wsA_16 := goodIn_of _ (by decide +kernel)
set_option maxRecDepth 20000 in
theorem ga_17 : GoodIn lw_tbl wsA_17 := goodIn_of _ (by decide +kernel)
set_option maxRecDepth 20000 in
theorem ga_18 : GoodIn lw_tbl wsA_18 := goodIn_of _ (by decide +kernel)
set_option maxRecDepth 20000 in
theorem ga_19 : GoodIn lw_tbl wsA_19 := goodIn_of _ (by decide +kernel)
set_option maxRecDepth 20000 in
theorem ga_20 : GoodIn lw_tbl wsA_20 := goodIn_of _ (by decide +kernel)
set_option maxRecDepth 20000 in
theorem ga_21 : GoodIn lw_tbl wsA_21 := goodIn_of _ (by decide +kernel)
set_option maxRecDepth 20000 in
theorem ga_22 : GoodIn lw_tbl wsA_22 := goodIn_of _ (by decide +kernel)
set_option maxRecDepth 20000 in
theorem ga_23 : GoodIn lw_tbl wsA_23 := goodIn_of _ (by decide +kernel)
set_option maxRecDepth 20000 in
theorem ga_24 : GoodIn lw_tbl wsA_24 := goodIn_of _ (by decide +kernel)
set_option maxRecDepth 20000 in
theorem ga_25 : GoodIn lw_tbl wsA_25 := goodIn_of _ (by decide +kernel)
set_option maxRecDepth 20000 in
theorem ga_26 : GoodIn lw_tbl wsA_26 := goodIn_of _ (by decide +kernel)
set_option maxRecDepth 20000 in
theorem ga_27 : GoodIn lw_tbl wsA_27 := goodIn_of _ (by decide +kernel)
set_option maxRecDepth 20000 in
theorem ga_28 : GoodIn lw_tbl wsA_28 := goodIn_of _ (by decide +kernel)
set_option maxRecDepth 20000 in
theorem ga_29 : GoodIn lw_tbl wsA_29 := goodIn_of _ (by decide +kernel)
set_option maxRecDepth 20000 in
theorem ga_30 : GoodIn lw_tbl wsA_30 := goodIn_of _ (by decide +kernel)
set_option maxRecDepth 20000 in
theorem ga_31 : GoodIn lw_tbl wsA_31 := goodIn_of _ (by decide +kernel)
set_option maxRecDepth 20000 in
theorem ga_32 : GoodIn lw_tbl wsA_32 := goodIn_of _ (by decide +kernel)
set_option maxRecDepth 20000 in
theorem ga_33 : GoodIn lw_tbl wsA_33 := goodIn_of _ (by decide +kernel)
set_option maxRecDepth 20000 in
theorem ga_34 : GoodIn lw_tbl wsA_34 := goodIn_of _ (by decide +kernel)
set_option maxRecDepth 20000 in
theorem ga_35 : GoodIn lw_tbl wsA_35 := goodIn_of _ (by decide +kernel)
set_option maxRecDepth 20000 in
theorem ga_36 : GoodIn lw_tbl wsA_36 := goodIn_of _ (by decide +kernel)
set_option maxRecDepth 20000 in
theorem ga_37 : GoodIn lw_tbl wsA_37 := goodIn_of _ (by decide +kernel)
set_option maxRecDepth 20000 in
theorem ga_38 : GoodIn lw_tbl wsA_38 := goodIn_of _ (by decide +kernel)
set_option maxRecDepth 20000 in
theorem ga_39 : GoodIn lw_tbl wsA_39 := goodIn_of _ (by decide +kernel)
set_option maxRecDepth 20000 in
theorem ga_40 : GoodIn lw_tbl wsA_40 := goodIn_of _ (by decide +kernel)
set_option maxRecDepth 20000 in
theorem ga_41 : GoodIn lw_tbl wsA_41 := goodIn_of _ (by decide +kernel)
set_option maxRecDepth 20000 in
theorem gc_0 : GoodIn lw_tbl wsX00 := goodIn_of _ (by decide +kernel)
set_option maxRecDepth 20000 in
theorem gc_1 : GoodIn lw_tbl wsX10 := goodIn_of _ (by decide +kernel)
set_option maxRecDepth 20000 in
theorem gc_2 : GoodIn lw_tbl wsX20 := goodIn_of _ (by decide +kernel)
set_option maxRecDepth 20000 in
theorem gc_3 : GoodIn lw_tbl wsX30 := goodIn_of _ (by decide +kernel)
set_option maxRecDepth 20000 in
theorem gc_4 : GoodIn lw_tbl wsX40 := goodIn_of _ (by decide +kernel)
set_option maxRecDepth 20000 in
theorem gc_5 : GoodIn lw_tbl wsX50 := goodIn_of _ (by decide +kernel)
set_option maxRecDepth 20000 in
theorem gc_6 : GoodIn lw_tbl wsX60 := goodIn_of _ (by decide +kernel)
set_option maxRecDepth 20000 in
theorem gc_7 : GoodIn lw_tbl wsX70 := goodIn_of _ (by decide +kernel)
set_option maxRecDepth 20000 in
theorem gc_8 : GoodIn lw_tbl wsX80 := goodIn_of _ (by decide +kernel)
set_option maxRecDepth 20000 in
theorem gc_9 : GoodIn lw_tbl wsX90 := goodIn_of _ (by decide +kernel)
set_option maxRecDepth 20000 in
theorem gc_10 : GoodIn lw_tbl wsX100 := goodIn_of _ (by decide +kernel)
theorem ga_all : GoodIn lw_tbl wsAll := (goodIn_app ga_1 (goodIn_app ga_2 (goodIn_app ga_3 (goodIn_app ga_4 (goodIn_app ga_5 (goodIn_app ga_6 (goodIn_app ga_7 (goodIn_app ga_8 (goodIn_app ga_9 (goodIn_app ga_10 (goodIn_app ga_11 (goodIn_app ga_12 (goodIn_app ga_13 (goodIn_app ga_14 (goodIn_app ga_15 (goodIn_app ga_16 (goodIn_app ga_17 (goodIn_app ga_18 (goodIn_app ga_19 (goodIn_app ga_20 (goodIn_app ga_21 (goodIn_app ga_22 (goodIn_app ga_23 (goodIn_app ga_24 (goodIn_app ga_25 (goodIn_app ga_26 (goodIn_app ga_27 (goodIn_app ga_28 (goodIn_app ga_29 (goodIn_app ga_30 (goodIn_app ga_31 (goodIn_app ga_32 (goodIn_app ga_33 (goodIn_app ga_34 (goodIn_app ga_35 (goodIn_app ga_36 (goodIn_app ga_37 (goodIn_app ga_38 (goodIn_app ga_39 (goodIn_app ga_40 (goodIn_app ga_41 (goodIn_app gc_0 (goodIn_app gc_1 (goodIn_app gc_2 (goodIn_app gc_3 (goodIn_app gc_4 (goodIn_app gc_5 (goodIn_app gc_6 (goodIn_app gc_7 (goodIn_app gc_8 (goodIn_app gc_9 gc_10)))))))))))))))))))))))))))))))))))))))))))))))))))
