theorem rt0 : mret 0 = none := by decide +kernel
theorem cl0 : mcls 0 = 0 := by decide +kernel
theorem sx0 : mstat 0 = false := by decide +kernel
theorem nx0 : ((mname 0).name == "<init>") = true := by decide +kernel
theorem ny0 : (mname 0).name = "<init>" ∧ mcls 0 = 0 := by decide +kernel
theorem rt1 : mret 1 = none := by decide +kernel
theorem cl1 : mcls 1 = 0 := by decide +kernel
theorem sx1 : mstat 1 = false := by decide +kernel
theorem nx1 : ((mname 1).name == "<init>") = false := by decide +kernel
theorem rt2 : mret 2 = some .boolean := by decide +kernel
theorem cl2 : mcls 2 = 0 := by decide +kernel
theorem sx2 : mstat 2 = false := by decide +kernel
theorem nx2 : ((mname 2).name == "<init>") = false := by decide +kernel
theorem rt3 : mret 3 = none := by decide +kernel
theorem cl3 : mcls 3 = 1 := by decide +kernel
theorem sx3 : mstat 3 = false := by decide +kernel
theorem nx3 : ((mname 3).name == "<init>") = true := by decide +kernel
theorem ny3 : (mname 3).name = "<init>" ∧ mcls 3 = 1 := by decide +kernel
theorem rt4 : mret 4 = none := by decide +kernel
theorem cl4 : mcls 4 = 1 := by decide +kernel
theorem sx4 : mstat 4 = false := by decide +kernel
theorem nx4 : ((mname 4).name == "<init>") = false := by decide +kernel
theorem rt5 : mret 5 = some .int := by decide +kernel
theorem cl5 : mcls 5 = 1 := by decide +kernel
theorem sx5 : mstat 5 = false := by decide +kernel
theorem nx5 : ((mname 5).name == "<init>") = false := by decide +kernel
theorem rt6 : mret 6 = none := by decide +kernel
theorem cl6 : mcls 6 = 1 := by decide +kernel
theorem sx6 : mstat 6 = false := by decide +kernel
theorem nx6 : ((mname 6).name == "<init>") = false := by decide +kernel
theorem rt7 : mret 7 = none := by decide +kernel
theorem cl7 : mcls 7 = 2 := by decide +kernel
theorem sx7 : mstat 7 = false := by decide +kernel
theorem nx7 : ((mname 7).name == "<init>") = true := by decide +kernel
theorem ny7 : (mname 7).name = "<init>" ∧ mcls 7 = 2 := by decide +kernel
theorem rt8 : mret 8 = none := by decide +kernel
theorem cl8 : mcls 8 = 2 := by decide +kernel
theorem sx8 : mstat 8 = false := by decide +kernel
theorem nx8 : ((mname 8).name == "<init>") = false := by decide +kernel
theorem rt9 : mret 9 = none := by decide +kernel
theorem cl9 : mcls 9 = 2 := by decide +kernel
theorem sx9 : mstat 9 = false := by decide +kernel
theorem nx9 : ((mname 9).name == "<init>") = false := by decide +kernel
theorem rt10 : mret 10 = some .int := by decide +kernel
theorem cl10 : mcls 10 = 2 := by decide +kernel
theorem sx10 : mstat 10 = false := by decide +kernel
theorem nx10 : ((mname 10).name == "<init>") = false := by decide +kernel
theorem rt11 : mret 11 = some .int := by decide +kernel
theorem cl11 : mcls 11 = 2 := by decide +kernel
theorem sx11 : mstat 11 = false := by decide +kernel
theorem nx11 : ((mname 11).name == "<init>") = false := by decide +kernel
theorem rt12 : mret 12 = some .int := by decide +kernel
theorem cl12 : mcls 12 = 2 := by decide +kernel
theorem sx12 : mstat 12 = false := by decide +kernel
theorem nx12 : ((mname 12).name == "<init>") = false := by decide +kernel
theorem rt13 : mret 13 = some .boolean := by decide +kernel
theorem cl13 : mcls 13 = 2 := by decide +kernel
theorem sx13 : mstat 13 = false := by decide +kernel
theorem nx13 : ((mname 13).name == "<init>") = false := by decide +kernel
theorem rt14 : mret 14 = some .boolean := by decide +kernel
theorem cl14 : mcls 14 = 2 := by decide +kernel
theorem sx14 : mstat 14 = false := by decide +kernel
theorem nx14 : ((mname 14).name == "<init>") = false := by decide +kernel
theorem rt15 : mret 15 = some .boolean := by decide +kernel
theorem cl15 : mcls 15 = 2 := by decide +kernel
theorem sx15 : mstat 15 = false := by decide +kernel
theorem nx15 : ((mname 15).name == "<init>") = false := by decide +kernel
theorem rt16 : mret 16 = some .int := by decide +kernel
theorem cl16 : mcls 16 = 2 := by decide +kernel
theorem sx16 : mstat 16 = false := by decide +kernel
theorem nx16 : ((mname 16).name == "<init>") = false := by decide +kernel
theorem rt17 : mret 17 = some .int := by decide +kernel
theorem cl17 : mcls 17 = 2 := by decide +kernel
theorem sx17 : mstat 17 = false := by decide +kernel
theorem nx17 : ((mname 17).name == "<init>") = false := by decide +kernel
theorem rt18 : mret 18 = some .boolean := by decide +kernel
theorem cl18 : mcls 18 = 2 := by decide +kernel
theorem sx18 : mstat 18 = false := by decide +kernel
theorem nx18 : ((mname 18).name == "<init>") = false := by decide +kernel
theorem rt19 : mret 19 = some .int := by decide +kernel
theorem cl19 : mcls 19 = 2 := by decide +kernel
theorem sx19 : mstat 19 = true := by decide +kernel
theorem nx19 : ((mname 19).name == "<init>") = false := by decide +kernel
theorem rt20 : mret 20 = some .int := by decide +kernel
theorem cl20 : mcls 20 = 2 := by decide +kernel
theorem sx20 : mstat 20 = false := by decide +kernel
theorem nx20 : ((mname 20).name == "<init>") = false := by decide +kernel
theorem rt21 : mret 21 = some .int := by decide +kernel
theorem cl21 : mcls 21 = 2 := by decide +kernel
theorem sx21 : mstat 21 = false := by decide +kernel
theorem nx21 : ((mname 21).name == "<init>") = false := by decide +kernel
theorem rt22 : mret 22 = some .int := by decide +kernel
theorem cl22 : mcls 22 = 2 := by decide +kernel
theorem sx22 : mstat 22 = false := by decide +kernel
theorem nx22 : ((mname 22).name == "<init>") = false := by decide +kernel
theorem rt23 : mret 23 = some .int := by decide +kernel
theorem cl23 : mcls 23 = 2 := by decide +kernel
theorem sx23 : mstat 23 = false := by decide +kernel
theorem nx23 : ((mname 23).name == "<init>") = false := by decide +kernel
theorem rt24 : mret 24 = some .int := by decide +kernel
theorem cl24 : mcls 24 = 2 := by decide +kernel
theorem sx24 : mstat 24 = false := by decide +kernel
theorem nx24 : ((mname 24).name == "<init>") = false := by decide +kernel
theorem rt25 : mret 25 = some .int := by decide +kernel
theorem cl25 : mcls 25 = 2 := by decide +kernel
theorem sx25 : mstat 25 = false := by decide +kernel
theorem nx25 : ((mname 25).name == "<init>") = false := by decide +kernel
theorem rt26 : mret 26 = some .int := by decide +kernel
theorem cl26 : mcls 26 = 2 := by decide +kernel
theorem sx26 : mstat 26 = false := by decide +kernel
theorem nx26 : ((mname 26).name == "<init>") = false := by decide +kernel
theorem rt27 : mret 27 = some .int := by decide +kernel
theorem cl27 : mcls 27 = 2 := by decide +kernel
theorem sx27 : mstat 27 = false := by decide +kernel
theorem nx27 : ((mname 27).name == "<init>") = false := by decide +kernel
theorem rt28 : mret 28 = some .int := by decide +kernel
theorem cl28 : mcls 28 = 2 := by decide +kernel
theorem sx28 : mstat 28 = false := by decide +kernel
theorem nx28 : ((mname 28).name == "<init>") = false := by decide +kernel
theorem rt29 : mret 29 = some .int := by decide +kernel
theorem cl29 : mcls 29 = 2 := by decide +kernel
theorem sx29 : mstat 29 = false := by decide +kernel
theorem nx29 : ((mname 29).name == "<init>") = false := by decide +kernel
theorem rt30 : mret 30 = some .int := by decide +kernel
theorem cl30 : mcls 30 = 2 := by decide +kernel
theorem sx30 : mstat 30 = false := by decide +kernel
theorem nx30 : ((mname 30).name == "<init>") = false := by decide +kernel
theorem rt31 : mret 31 = some .boolean := by decide +kernel
theorem cl31 : mcls 31 = 2 := by decide +kernel
theorem sx31 : mstat 31 = false := by decide +kernel
theorem nx31 : ((mname 31).name == "<init>") = false := by decide +kernel
theorem rt32 : mret 32 = some .int := by decide +kernel
theorem cl32 : mcls 32 = 2 := by decide +kernel
theorem sx32 : mstat 32 = false := by decide +kernel
theorem nx32 : ((mname 32).name == "<init>") = false := by decide +kernel
theorem rt33 : mret 33 = none := by decide +kernel
theorem cl33 : mcls 33 = 3 := by decide +kernel
theorem sx33 : mstat 33 = false := by decide +kernel
theorem nx33 : ((mname 33).name == "<init>") = true := by decide +kernel
theorem ny33 : (mname 33).name = "<init>" ∧ mcls 33 = 3 := by decide +kernel
theorem rt34 : mret 34 = none := by decide +kernel
theorem cl34 : mcls 34 = 3 := by decide +kernel
theorem sx34 : mstat 34 = false := by decide +kernel
theorem nx34 : ((mname 34).name == "<init>") = false := by decide +kernel
theorem rt35 : mret 35 = none := by decide +kernel
theorem cl35 : mcls 35 = 3 := by decide +kernel
theorem sx35 : mstat 35 = false := by decide +kernel
theorem nx35 : ((mname 35).name == "<init>") = false := by decide +kernel
theorem rt36 : mret 36 = none := by decide +kernel
theorem cl36 : mcls 36 = 3 := by decide +kernel
theorem sx36 : mstat 36 = false := by decide +kernel
theorem nx36 : ((mname 36).name == "<init>") = false := by decide +kernel
theorem rt37 : mret 37 = none := by decide +kernel
theorem cl37 : mcls 37 = 3 := by decide +kernel
theorem sx37 : mstat 37 = false := by decide +kernel
theorem nx37 : ((mname 37).name == "<init>") = false := by decide +kernel
theorem rt38 : mret 38 = some .int := by decide +kernel
theorem cl38 : mcls 38 = 3 := by decide +kernel
theorem sx38 : mstat 38 = false := by decide +kernel
theorem nx38 : ((mname 38).name == "<init>") = false := by decide +kernel
theorem rt39 : mret 39 = some .boolean := by decide +kernel
theorem cl39 : mcls 39 = 3 := by decide +kernel
theorem sx39 : mstat 39 = false := by decide +kernel
theorem nx39 : ((mname 39).name == "<init>") = false := by decide +kernel
theorem rt40 : mret 40 = none := by decide +kernel
theorem cl40 : mcls 40 = 4 := by decide +kernel
theorem sx40 : mstat 40 = false := by decide +kernel
theorem nx40 : ((mname 40).name == "<init>") = true := by decide +kernel
theorem ny40 : (mname 40).name = "<init>" ∧ mcls 40 = 4 := by decide +kernel
theorem rt41 : mret 41 = none := by decide +kernel
theorem cl41 : mcls 41 = 4 := by decide +kernel
theorem sx41 : mstat 41 = false := by decide +kernel
theorem nx41 : ((mname 41).name == "<init>") = false := by decide +kernel
theorem rt42 : mret 42 = none := by decide +kernel
theorem cl42 : mcls 42 = 4 := by decide +kernel
theorem sx42 : mstat 42 = false := by decide +kernel
theorem nx42 : ((mname 42).name == "<init>") = false := by decide +kernel
theorem rt43 : mret 43 = none := by decide +kernel
theorem cl43 : mcls 43 = 4 := by decide +kernel
theorem sx43 : mstat 43 = false := by decide +kernel
theorem nx43 : ((mname 43).name == "<init>") = false := by decide +kernel
theorem rt44 : mret 44 = none := by decide +kernel
theorem cl44 : mcls 44 = 4 := by decide +kernel
theorem sx44 : mstat 44 = false := by decide +kernel
theorem nx44 : ((mname 44).name == "<init>") = false := by decide +kernel
theorem rt45 : mret 45 = none := by decide +kernel
theorem cl45 : mcls 45 = 4 := by decide +kernel
theorem sx45 : mstat 45 = false := by decide +kernel
theorem nx45 : ((mname 45).name == "<init>") = false := by decide +kernel
theorem rt46 : mret 46 = none := by decide +kernel
theorem cl46 : mcls 46 = 4 := by decide +kernel
theorem sx46 : mstat 46 = false := by decide +kernel
theorem nx46 : ((mname 46).name == "<init>") = false := by decide +kernel
theorem rt47 : mret 47 = none := by decide +kernel
theorem cl47 : mcls 47 = 4 := by decide +kernel
theorem sx47 : mstat 47 = false := by decide +kernel
theorem nx47 : ((mname 47).name == "<init>") = false := by decide +kernel
theorem rt48 : mret 48 = none := by decide +kernel
theorem cl48 : mcls 48 = 5 := by decide +kernel
theorem sx48 : mstat 48 = false := by decide +kernel
theorem nx48 : ((mname 48).name == "<init>") = true := by decide +kernel
theorem ny48 : (mname 48).name = "<init>" ∧ mcls 48 = 5 := by decide +kernel
theorem rt49 : mret 49 = none := by decide +kernel
theorem cl49 : mcls 49 = 5 := by decide +kernel
theorem sx49 : mstat 49 = false := by decide +kernel
theorem nx49 : ((mname 49).name == "<init>") = false := by decide +kernel
theorem rt50 : mret 50 = none := by decide +kernel
theorem cl50 : mcls 50 = 5 := by decide +kernel
theorem sx50 : mstat 50 = false := by decide +kernel
theorem nx50 : ((mname 50).name == "<init>") = false := by decide +kernel
theorem rt51 : mret 51 = none := by decide +kernel
theorem cl51 : mcls 51 = 5 := by decide +kernel
theorem sx51 : mstat 51 = false := by decide +kernel
theorem nx51 : ((mname 51).name == "<init>") = false := by decide +kernel
theorem rt52 : mret 52 = none := by decide +kernel
theorem cl52 : mcls 52 = 5 := by decide +kernel
theorem sx52 : mstat 52 = false := by decide +kernel
theorem nx52 : ((mname 52).name == "<init>") = false := by decide +kernel
theorem rt53 : mret 53 = none := by decide +kernel
theorem cl53 : mcls 53 = 5 := by decide +kernel
theorem sx53 : mstat 53 = false := by decide +kernel
theorem nx53 : ((mname 53).name == "<init>") = false := by decide +kernel
theorem rt54 : mret 54 = none := by decide +kernel
theorem cl54 : mcls 54 = 5 := by decide +kernel
theorem sx54 : mstat 54 = false := by decide +kernel
theorem nx54 : ((mname 54).name == "<init>") = false := by decide +kernel
theorem rt55 : mret 55 = some .int := by decide +kernel
theorem cl55 : mcls 55 = 5 := by decide +kernel
theorem sx55 : mstat 55 = false := by decide +kernel
theorem nx55 : ((mname 55).name == "<init>") = false := by decide +kernel
theorem rt56 : mret 56 = some .boolean := by decide +kernel
theorem cl56 : mcls 56 = 5 := by decide +kernel
theorem sx56 : mstat 56 = false := by decide +kernel
theorem nx56 : ((mname 56).name == "<init>") = false := by decide +kernel
theorem rt57 : mret 57 = some .boolean := by decide +kernel
theorem cl57 : mcls 57 = 5 := by decide +kernel
theorem sx57 : mstat 57 = false := by decide +kernel
theorem nx57 : ((mname 57).name == "<init>") = false := by decide +kernel
theorem rt58 : mret 58 = some .int := by decide +kernel
theorem cl58 : mcls 58 = 5 := by decide +kernel
theorem sx58 : mstat 58 = false := by decide +kernel
theorem nx58 : ((mname 58).name == "<init>") = false := by decide +kernel
theorem rt59 : mret 59 = some .int := by decide +kernel
theorem cl59 : mcls 59 = 5 := by decide +kernel
theorem sx59 : mstat 59 = false := by decide +kernel
theorem nx59 : ((mname 59).name == "<init>") = false := by decide +kernel
theorem rt60 : mret 60 = some .boolean := by decide +kernel
theorem cl60 : mcls 60 = 5 := by decide +kernel
theorem sx60 : mstat 60 = false := by decide +kernel
theorem nx60 : ((mname 60).name == "<init>") = false := by decide +kernel
theorem rt61 : mret 61 = none := by decide +kernel
theorem cl61 : mcls 61 = 5 := by decide +kernel
theorem sx61 : mstat 61 = false := by decide +kernel
theorem nx61 : ((mname 61).name == "<init>") = false := by decide +kernel
theorem rt62 : mret 62 = some .long := by decide +kernel
theorem cl62 : mcls 62 = 5 := by decide +kernel
theorem sx62 : mstat 62 = false := by decide +kernel
theorem nx62 : ((mname 62).name == "<init>") = false := by decide +kernel
theorem rt63 : mret 63 = some .int := by decide +kernel
theorem cl63 : mcls 63 = 5 := by decide +kernel
theorem sx63 : mstat 63 = false := by decide +kernel
theorem nx63 : ((mname 63).name == "<init>") = false := by decide +kernel
theorem rt64 : mret 64 = some .int := by decide +kernel
theorem cl64 : mcls 64 = 5 := by decide +kernel
theorem sx64 : mstat 64 = false := by decide +kernel
theorem nx64 : ((mname 64).name == "<init>") = false := by decide +kernel
theorem rt65 : mret 65 = some .boolean := by decide +kernel
theorem cl65 : mcls 65 = 5 := by decide +kernel
theorem sx65 : mstat 65 = false := by decide +kernel
theorem nx65 : ((mname 65).name == "<init>") = false := by decide +kernel
theorem rt66 : mret 66 = some .int := by decide +kernel
theorem cl66 : mcls 66 = 5 := by decide +kernel
theorem sx66 : mstat 66 = false := by decide +kernel
theorem nx66 : ((mname 66).name == "<init>") = false := by decide +kernel
theorem rt67 : mret 67 = none := by decide +kernel
theorem cl67 : mcls 67 = 6 := by decide +kernel
theorem sx67 : mstat 67 = false := by decide +kernel
theorem nx67 : ((mname 67).name == "<init>") = true := by decide +kernel
theorem ny67 : (mname 67).name = "<init>" ∧ mcls 67 = 6 := by decide +kernel
theorem rt68 : mret 68 = none := by decide +kernel
theorem cl68 : mcls 68 = 6 := by decide +kernel
theorem sx68 : mstat 68 = false := by decide +kernel
theorem nx68 : ((mname 68).name == "<init>") = false := by decide +kernel
theorem rt69 : mret 69 = none := by decide +kernel
theorem cl69 : mcls 69 = 6 := by decide +kernel
theorem sx69 : mstat 69 = false := by decide +kernel
theorem nx69 : ((mname 69).name == "<init>") = false := by decide +kernel
theorem rt70 : mret 70 = some .boolean := by decide +kernel
theorem cl70 : mcls 70 = 6 := by decide +kernel
theorem sx70 : mstat 70 = false := by decide +kernel
theorem nx70 : ((mname 70).name == "<init>") = false := by decide +kernel
theorem rt71 : mret 71 = some .int := by decide +kernel
theorem cl71 : mcls 71 = 6 := by decide +kernel
theorem sx71 : mstat 71 = false := by decide +kernel
theorem nx71 : ((mname 71).name == "<init>") = false := by decide +kernel
theorem rt72 : mret 72 = none := by decide +kernel
theorem cl72 : mcls 72 = 7 := by decide +kernel
theorem sx72 : mstat 72 = false := by decide +kernel
theorem nx72 : ((mname 72).name == "<init>") = true := by decide +kernel
theorem ny72 : (mname 72).name = "<init>" ∧ mcls 72 = 7 := by decide +kernel
theorem rt73 : mret 73 = none := by decide +kernel
theorem cl73 : mcls 73 = 7 := by decide +kernel
theorem sx73 : mstat 73 = false := by decide +kernel
theorem nx73 : ((mname 73).name == "<init>") = false := by decide +kernel
theorem rt74 : mret 74 = some .int := by decide +kernel
theorem cl74 : mcls 74 = 7 := by decide +kernel
theorem sx74 : mstat 74 = false := by decide +kernel
theorem nx74 : ((mname 74).name == "<init>") = false := by decide +kernel
theorem rt75 : mret 75 = some .boolean := by decide +kernel
theorem cl75 : mcls 75 = 7 := by decide +kernel
theorem sx75 : mstat 75 = false := by decide +kernel
theorem nx75 : ((mname 75).name == "<init>") = false := by decide +kernel
theorem rt76 : mret 76 = none := by decide +kernel
theorem cl76 : mcls 76 = 7 := by decide +kernel
theorem sx76 : mstat 76 = false := by decide +kernel
theorem nx76 : ((mname 76).name == "<init>") = false := by decide +kernel
theorem rt77 : mret 77 = none := by decide +kernel
theorem cl77 : mcls 77 = 7 := by decide +kernel
theorem sx77 : mstat 77 = false := by decide +kernel
theorem nx77 : ((mname 77).name == "<init>") = false := by decide +kernel
theorem rt78 : mret 78 = none := by decide +kernel
theorem cl78 : mcls 78 = 7 := by decide +kernel
theorem sx78 : mstat 78 = false := by decide +kernel
theorem nx78 : ((mname 78).name == "<init>") = false := by decide +kernel
theorem rt79 : mret 79 = none := by decide +kernel
theorem cl79 : mcls 79 = 7 := by decide +kernel
theorem sx79 : mstat 79 = false := by decide +kernel
theorem nx79 : ((mname 79).name == "<init>") = false := by decide +kernel
theorem rt80 : mret 80 = none := by decide +kernel
theorem cl80 : mcls 80 = 7 := by decide +kernel
theorem sx80 : mstat 80 = false := by decide +kernel
theorem nx80 : ((mname 80).name == "<init>") = false := by decide +kernel
theorem rt81 : mret 81 = some .int := by decide +kernel
theorem cl81 : mcls 81 = 7 := by decide +kernel
theorem sx81 : mstat 81 = false := by decide +kernel
theorem nx81 : ((mname 81).name == "<init>") = false := by decide +kernel
theorem rt82 : mret 82 = some .int := by decide +kernel
theorem cl82 : mcls 82 = 7 := by decide +kernel
theorem sx82 : mstat 82 = true := by decide +kernel
theorem nx82 : ((mname 82).name == "<init>") = false := by decide +kernel
theorem rt83 : mret 83 = some .boolean := by decide +kernel
theorem cl83 : mcls 83 = 7 := by decide +kernel
theorem sx83 : mstat 83 = true := by decide +kernel
theorem nx83 : ((mname 83).name == "<init>") = false := by decide +kernel
theorem rt84 : mret 84 = some .int := by decide +kernel
theorem cl84 : mcls 84 = 7 := by decide +kernel
theorem sx84 : mstat 84 = true := by decide +kernel
theorem nx84 : ((mname 84).name == "<init>") = false := by decide +kernel
theorem rt85 : mret 85 = none := by decide +kernel
theorem cl85 : mcls 85 = 8 := by decide +kernel
theorem sx85 : mstat 85 = false := by decide +kernel
theorem nx85 : ((mname 85).name == "<init>") = true := by decide +kernel
theorem ny85 : (mname 85).name = "<init>" ∧ mcls 85 = 8 := by decide +kernel
theorem rt86 : mret 86 = none := by decide +kernel
theorem cl86 : mcls 86 = 8 := by decide +kernel
theorem sx86 : mstat 86 = false := by decide +kernel
theorem nx86 : ((mname 86).name == "<init>") = false := by decide +kernel
theorem rt87 : mret 87 = none := by decide +kernel
theorem cl87 : mcls 87 = 8 := by decide +kernel
theorem sx87 : mstat 87 = false := by decide +kernel
theorem nx87 : ((mname 87).name == "<init>") = false := by decide +kernel
theorem rt88 : mret 88 = none := by decide +kernel
theorem cl88 : mcls 88 = 8 := by decide +kernel
theorem sx88 : mstat 88 = false := by decide +kernel
theorem nx88 : ((mname 88).name == "<init>") = false := by decide +kernel
theorem rt89 : mret 89 = some .int := by decide +kernel
theorem cl89 : mcls 89 = 8 := by decide +kernel
theorem sx89 : mstat 89 = true := by decide +kernel
theorem nx89 : ((mname 89).name == "<init>") = false := by decide +kernel
theorem rt90 : mret 90 = some .int := by decide +kernel
theorem cl90 : mcls 90 = 8 := by decide +kernel
theorem sx90 : mstat 90 = true := by decide +kernel
theorem nx90 : ((mname 90).name == "<init>") = false := by decide +kernel
theorem rt91 : mret 91 = none := by decide +kernel
theorem cl91 : mcls 91 = 8 := by decide +kernel
theorem sx91 : mstat 91 = false := by decide +kernel
theorem nx91 : ((mname 91).name == "<init>") = false := by decide +kernel
theorem rt92 : mret 92 = some .int := by decide +kernel
theorem cl92 : mcls 92 = 8 := by decide +kernel
theorem sx92 : mstat 92 = false := by decide +kernel
theorem nx92 : ((mname 92).name == "<init>") = false := by decide +kernel
theorem rt93 : mret 93 = none := by decide +kernel
theorem cl93 : mcls 93 = 8 := by decide +kernel
theorem sx93 : mstat 93 = false := by decide +kernel
theorem nx93 : ((mname 93).name == "<init>") = false := by decide +kernel
theorem rt94 : mret 94 = some .boolean := by decide +kernel
theorem cl94 : mcls 94 = 8 := by decide +kernel
theorem sx94 : mstat 94 = true := by decide +kernel
theorem nx94 : ((mname 94).name == "<init>") = false := by decide +kernel
theorem rt95 : mret 95 = some .int := by decide +kernel
theorem cl95 : mcls 95 = 8 := by decide +kernel
theorem sx95 : mstat 95 = false := by decide +kernel
theorem nx95 : ((mname 95).name == "<init>") = false := by decide +kernel
theorem rt96 : mret 96 = some .int := by decide +kernel
theorem cl96 : mcls 96 = 8 := by decide +kernel
theorem sx96 : mstat 96 = false := by decide +kernel
theorem nx96 : ((mname 96).name == "<init>") = false := by decide +kernel
theorem rt97 : mret 97 = some .boolean := by decide +kernel
theorem cl97 : mcls 97 = 8 := by decide +kernel
theorem sx97 : mstat 97 = false := by decide +kernel
theorem nx97 : ((mname 97).name == "<init>") = false := by decide +kernel
theorem rt98 : mret 98 = none := by decide +kernel
theorem cl98 : mcls 98 = 8 := by decide +kernel
theorem sx98 : mstat 98 = false := by decide +kernel
theorem nx98 : ((mname 98).name == "<init>") = false := by decide +kernel
theorem rt99 : mret 99 = none := by decide +kernel
theorem cl99 : mcls 99 = 9 := by decide +kernel
theorem sx99 : mstat 99 = false := by decide +kernel
theorem nx99 : ((mname 99).name == "<init>") = true := by decide +kernel
theorem ny99 : (mname 99).name = "<init>" ∧ mcls 99 = 9 := by decide +kernel
theorem rt100 : mret 100 = none := by decide +kernel
theorem cl100 : mcls 100 = 9 := by decide +kernel
theorem sx100 : mstat 100 = false := by decide +kernel
theorem nx100 : ((mname 100).name == "<init>") = false := by decide +kernel
theorem rt101 : mret 101 = some .int := by decide +kernel
theorem cl101 : mcls 101 = 9 := by decide +kernel
theorem sx101 : mstat 101 = false := by decide +kernel
theorem nx101 : ((mname 101).name == "<init>") = false := by decide +kernel
theorem rt102 : mret 102 = some .boolean := by decide +kernel
theorem cl102 : mcls 102 = 9 := by decide +kernel
theorem sx102 : mstat 102 = true := by decide +kernel
theorem nx102 : ((mname 102).name == "<init>") = false := by decide +kernel
theorem rt103 : mret 103 = some .boolean := by decide +kernel
theorem cl103 : mcls 103 = 9 := by decide +kernel
theorem sx103 : mstat 103 = false := by decide +kernel
theorem nx103 : ((mname 103).name == "<init>") = false := by decide +kernel
theorem rt104 : mret 104 = some .int := by decide +kernel
theorem cl104 : mcls 104 = 9 := by decide +kernel
theorem sx104 : mstat 104 = true := by decide +kernel
theorem nx104 : ((mname 104).name == "<init>") = false := by decide +kernel
theorem rt105 : mret 105 = none := by decide +kernel
theorem cl105 : mcls 105 = 9 := by decide +kernel
theorem sx105 : mstat 105 = false := by decide +kernel
theorem nx105 : ((mname 105).name == "<init>") = false := by decide +kernel
theorem rt106 : mret 106 = none := by decide +kernel
theorem cl106 : mcls 106 = 10 := by decide +kernel
theorem sx106 : mstat 106 = false := by decide +kernel
theorem nx106 : ((mname 106).name == "<init>") = true := by decide +kernel
theorem ny106 : (mname 106).name = "<init>" ∧ mcls 106 = 10 := by decide +kernel
theorem rt107 : mret 107 = none := by decide +kernel
theorem cl107 : mcls 107 = 10 := by decide +kernel
theorem sx107 : mstat 107 = false := by decide +kernel
theorem nx107 : ((mname 107).name == "<init>") = false := by decide +kernel
theorem rt108 : mret 108 = none := by decide +kernel
theorem cl108 : mcls 108 = 10 := by decide +kernel
theorem sx108 : mstat 108 = false := by decide +kernel
theorem nx108 : ((mname 108).name == "<init>") = false := by decide +kernel
theorem rt109 : mret 109 = some .boolean := by decide +kernel
theorem cl109 : mcls 109 = 10 := by decide +kernel
theorem sx109 : mstat 109 = false := by decide +kernel
theorem nx109 : ((mname 109).name == "<init>") = false := by decide +kernel
theorem rt110 : mret 110 = some .int := by decide +kernel
theorem cl110 : mcls 110 = 10 := by decide +kernel
theorem sx110 : mstat 110 = false := by decide +kernel
theorem nx110 : ((mname 110).name == "<init>") = false := by decide +kernel
theorem rt111 : mret 111 = some .boolean := by decide +kernel
theorem cl111 : mcls 111 = 10 := by decide +kernel
theorem sx111 : mstat 111 = false := by decide +kernel
theorem nx111 : ((mname 111).name == "<init>") = false := by decide +kernel
theorem rt112 : mret 112 = some .boolean := by decide +kernel
theorem cl112 : mcls 112 = 10 := by decide +kernel
theorem sx112 : mstat 112 = false := by decide +kernel
theorem nx112 : ((mname 112).name == "<init>") = false := by decide +kernel
theorem rt113 : mret 113 = some .boolean := by decide +kernel
theorem cl113 : mcls 113 = 10 := by decide +kernel
theorem sx113 : mstat 113 = false := by decide +kernel
theorem nx113 : ((mname 113).name == "<init>") = false := by decide +kernel
theorem rt114 : mret 114 = some .int := by decide +kernel
theorem cl114 : mcls 114 = 10 := by decide +kernel
theorem sx114 : mstat 114 = false := by decide +kernel
theorem nx114 : ((mname 114).name == "<init>") = false := by decide +kernel
theorem rt115 : mret 115 = some .int := by decide +kernel
theorem cl115 : mcls 115 = 10 := by decide +kernel
theorem sx115 : mstat 115 = false := by decide +kernel
theorem nx115 : ((mname 115).name == "<init>") = false := by decide +kernel
theorem rt116 : mret 116 = some .int := by decide +kernel
theorem cl116 : mcls 116 = 10 := by decide +kernel
theorem sx116 : mstat 116 = false := by decide +kernel
theorem nx116 : ((mname 116).name == "<init>") = false := by decide +kernel
theorem rt117 : mret 117 = none := by decide +kernel
theorem cl117 : mcls 117 = 11 := by decide +kernel
theorem sx117 : mstat 117 = false := by decide +kernel
theorem nx117 : ((mname 117).name == "<init>") = true := by decide +kernel
theorem ny117 : (mname 117).name = "<init>" ∧ mcls 117 = 11 := by decide +kernel
theorem rt118 : mret 118 = some .boolean := by decide +kernel
theorem cl118 : mcls 118 = 11 := by decide +kernel
theorem sx118 : mstat 118 = false := by decide +kernel
theorem nx118 : ((mname 118).name == "<init>") = false := by decide +kernel
theorem rt119 : mret 119 = some .int := by decide +kernel
theorem cl119 : mcls 119 = 11 := by decide +kernel
theorem sx119 : mstat 119 = false := by decide +kernel
theorem nx119 : ((mname 119).name == "<init>") = false := by decide +kernel
theorem rt120 : mret 120 = some .boolean := by decide +kernel
theorem cl120 : mcls 120 = 11 := by decide +kernel
theorem sx120 : mstat 120 = false := by decide +kernel
theorem nx120 : ((mname 120).name == "<init>") = false := by decide +kernel
theorem rt121 : mret 121 = some .boolean := by decide +kernel
theorem cl121 : mcls 121 = 11 := by decide +kernel
theorem sx121 : mstat 121 = false := by decide +kernel
theorem nx121 : ((mname 121).name == "<init>") = false := by decide +kernel
theorem rt122 : mret 122 = some .int := by decide +kernel
theorem cl122 : mcls 122 = 11 := by decide +kernel
theorem sx122 : mstat 122 = false := by decide +kernel
theorem nx122 : ((mname 122).name == "<init>") = false := by decide +kernel
theorem rt123 : mret 123 = some .boolean := by decide +kernel
theorem cl123 : mcls 123 = 11 := by decide +kernel
theorem sx123 : mstat 123 = false := by decide +kernel
theorem nx123 : ((mname 123).name == "<init>") = false := by decide +kernel
theorem rt124 : mret 124 = some .boolean := by decide +kernel
theorem cl124 : mcls 124 = 11 := by decide +kernel
theorem sx124 : mstat 124 = false := by decide +kernel
theorem nx124 : ((mname 124).name == "<init>") = false := by decide +kernel
theorem rt125 : mret 125 = some .int := by decide +kernel
theorem cl125 : mcls 125 = 11 := by decide +kernel
theorem sx125 : mstat 125 = false := by decide +kernel
theorem nx125 : ((mname 125).name == "<init>") = false := by decide +kernel
theorem rt126 : mret 126 = some .int := by decide +kernel
theorem cl126 : mcls 126 = 11 := by decide +kernel
theorem sx126 : mstat 126 = false := by decide +kernel
theorem nx126 : ((mname 126).name == "<init>") = false := by decide +kernel
theorem rt127 : mret 127 = some .boolean := by decide +kernel
theorem cl127 : mcls 127 = 11 := by decide +kernel
theorem sx127 : mstat 127 = false := by decide +kernel
theorem nx127 : ((mname 127).name == "<init>") = false := by decide +kernel
theorem rt128 : mret 128 = some .int := by decide +kernel
theorem cl128 : mcls 128 = 11 := by decide +kernel
theorem sx128 : mstat 128 = false := by decide +kernel
theorem nx128 : ((mname 128).name == "<init>") = false := by decide +kernel
theorem rt129 : mret 129 = some .int := by decide +kernel
theorem cl129 : mcls 129 = 11 := by decide +kernel
theorem sx129 : mstat 129 = false := by decide +kernel
theorem nx129 : ((mname 129).name == "<init>") = false := by decide +kernel
theorem rt130 : mret 130 = some .boolean := by decide +kernel
theorem cl130 : mcls 130 = 11 := by decide +kernel
theorem sx130 : mstat 130 = false := by decide +kernel
theorem nx130 : ((mname 130).name == "<init>") = false := by decide +kernel
theorem rt131 : mret 131 = some .int := by decide +kernel
theorem cl131 : mcls 131 = 11 := by decide +kernel
theorem sx131 : mstat 131 = false := by decide +kernel
theorem nx131 : ((mname 131).name == "<init>") = false := by decide +kernel
theorem rt132 : mret 132 = some .int := by decide +kernel
theorem cl132 : mcls 132 = 11 := by decide +kernel
theorem sx132 : mstat 132 = false := by decide +kernel
theorem nx132 : ((mname 132).name == "<init>") = false := by decide +kernel
theorem rt133 : mret 133 = some .boolean := by decide +kernel
theorem cl133 : mcls 133 = 11 := by decide +kernel
theorem sx133 : mstat 133 = false := by decide +kernel
theorem nx133 : ((mname 133).name == "<init>") = false := by decide +kernel
theorem rt134 : mret 134 = some .int := by decide +kernel
theorem cl134 : mcls 134 = 11 := by decide +kernel
theorem sx134 : mstat 134 = false := by decide +kernel
theorem nx134 : ((mname 134).name == "<init>") = false := by decide +kernel
theorem rt135 : mret 135 = some .int := by decide +kernel
theorem cl135 : mcls 135 = 11 := by decide +kernel
theorem sx135 : mstat 135 = false := by decide +kernel
theorem nx135 : ((mname 135).name == "<init>") = false := by decide +kernel
theorem rt136 : mret 136 = some .int := by decide +kernel
theorem cl136 : mcls 136 = 11 := by decide +kernel
theorem sx136 : mstat 136 = false := by decide +kernel
theorem nx136 : ((mname 136).name == "<init>") = false := by decide +kernel
theorem rt137 : mret 137 = some .int := by decide +kernel
theorem cl137 : mcls 137 = 11 := by decide +kernel
theorem sx137 : mstat 137 = false := by decide +kernel
theorem nx137 : ((mname 137).name == "<init>") = false := by decide +kernel
theorem rt138 : mret 138 = some .int := by decide +kernel
theorem cl138 : mcls 138 = 11 := by decide +kernel
theorem sx138 : mstat 138 = false := by decide +kernel
theorem nx138 : ((mname 138).name == "<init>") = false := by decide +kernel
theorem rt139 : mret 139 = some .int := by decide +kernel
theorem cl139 : mcls 139 = 11 := by decide +kernel
theorem sx139 : mstat 139 = false := by decide +kernel
theorem nx139 : ((mname 139).name == "<init>") = false := by decide +kernel
theorem rt140 : mret 140 = some .int := by decide +kernel
theorem cl140 : mcls 140 = 11 := by decide +kernel
theorem sx140 : mstat 140 = false := by decide +kernel
theorem nx140 : ((mname 140).name == "<init>") = false := by decide +kernel
theorem rt141 : mret 141 = some .int := by decide +kernel
theorem cl141 : mcls 141 = 11 := by decide +kernel
theorem sx141 : mstat 141 = false := by decide +kernel
theorem nx141 : ((mname 141).name == "<init>") = false := by decide +kernel
theorem rt142 : mret 142 = some .int := by decide +kernel
theorem cl142 : mcls 142 = 11 := by decide +kernel
theorem sx142 : mstat 142 = false := by decide +kernel
theorem nx142 : ((mname 142).name == "<init>") = false := by decide +kernel
theorem rt143 : mret 143 = some .int := by decide +kernel
theorem cl143 : mcls 143 = 11 := by decide +kernel
theorem sx143 : mstat 143 = false := by decide +kernel
theorem nx143 : ((mname 143).name == "<init>") = false := by decide +kernel
theorem rt144 : mret 144 = some .int := by decide +kernel
theorem cl144 : mcls 144 = 11 := by decide +kernel
theorem sx144 : mstat 144 = false := by decide +kernel
theorem nx144 : ((mname 144).name == "<init>") = false := by decide +kernel
theorem rt145 : mret 145 = some .int := by decide +kernel
theorem cl145 : mcls 145 = 11 := by decide +kernel
theorem sx145 : mstat 145 = false := by decide +kernel
theorem nx145 : ((mname 145).name == "<init>") = false := by decide +kernel
theorem rt146 : mret 146 = some .long := by decide +kernel
theorem cl146 : mcls 146 = 11 := by decide +kernel
theorem sx146 : mstat 146 = false := by decide +kernel
theorem nx146 : ((mname 146).name == "<init>") = false := by decide +kernel
theorem rt147 : mret 147 = some .long := by decide +kernel
theorem cl147 : mcls 147 = 11 := by decide +kernel
theorem sx147 : mstat 147 = false := by decide +kernel
theorem nx147 : ((mname 147).name == "<init>") = false := by decide +kernel
theorem rt148 : mret 148 = some .int := by decide +kernel
theorem cl148 : mcls 148 = 11 := by decide +kernel
theorem sx148 : mstat 148 = false := by decide +kernel
theorem nx148 : ((mname 148).name == "<init>") = false := by decide +kernel
theorem rt149 : mret 149 = some .int := by decide +kernel
theorem cl149 : mcls 149 = 11 := by decide +kernel
theorem sx149 : mstat 149 = false := by decide +kernel
theorem nx149 : ((mname 149).name == "<init>") = false := by decide +kernel
theorem rt150 : mret 150 = some .int := by decide +kernel
theorem cl150 : mcls 150 = 11 := by decide +kernel
theorem sx150 : mstat 150 = false := by decide +kernel
theorem nx150 : ((mname 150).name == "<init>") = false := by decide +kernel
theorem rt151 : mret 151 = some .int := by decide +kernel
theorem cl151 : mcls 151 = 11 := by decide +kernel
theorem sx151 : mstat 151 = false := by decide +kernel
theorem nx151 : ((mname 151).name == "<init>") = false := by decide +kernel
theorem rt152 : mret 152 = some .int := by decide +kernel
theorem cl152 : mcls 152 = 11 := by decide +kernel
theorem sx152 : mstat 152 = false := by decide +kernel
theorem nx152 : ((mname 152).name == "<init>") = false := by decide +kernel
theorem rt153 : mret 153 = some .int := by decide +kernel
theorem cl153 : mcls 153 = 11 := by decide +kernel
theorem sx153 : mstat 153 = false := by decide +kernel
theorem nx153 : ((mname 153).name == "<init>") = false := by decide +kernel
theorem rt154 : mret 154 = some .int := by decide +kernel
theorem cl154 : mcls 154 = 11 := by decide +kernel
theorem sx154 : mstat 154 = false := by decide +kernel
theorem nx154 : ((mname 154).name == "<init>") = false := by decide +kernel
theorem rt155 : mret 155 = some .int := by decide +kernel
theorem cl155 : mcls 155 = 11 := by decide +kernel
theorem sx155 : mstat 155 = false := by decide +kernel
theorem nx155 : ((mname 155).name == "<init>") = false := by decide +kernel
theorem rt156 : mret 156 = some .int := by decide +kernel
theorem cl156 : mcls 156 = 11 := by decide +kernel
theorem sx156 : mstat 156 = false := by decide +kernel
theorem nx156 : ((mname 156).name == "<init>") = false := by decide +kernel
theorem rt157 : mret 157 = some .boolean := by decide +kernel
theorem cl157 : mcls 157 = 11 := by decide +kernel
theorem sx157 : mstat 157 = false := by decide +kernel
theorem nx157 : ((mname 157).name == "<init>") = false := by decide +kernel
theorem rt158 : mret 158 = some .int := by decide +kernel
theorem cl158 : mcls 158 = 11 := by decide +kernel
theorem sx158 : mstat 158 = false := by decide +kernel
theorem nx158 : ((mname 158).name == "<init>") = false := by decide +kernel
theorem rt159 : mret 159 = some .boolean := by decide +kernel
theorem cl159 : mcls 159 = 11 := by decide +kernel
theorem sx159 : mstat 159 = true := by decide +kernel
theorem nx159 : ((mname 159).name == "<init>") = false := by decide +kernel
theorem rt160 : mret 160 = some .int := by decide +kernel
theorem cl160 : mcls 160 = 11 := by decide +kernel
theorem sx160 : mstat 160 = false := by decide +kernel
theorem nx160 : ((mname 160).name == "<init>") = false := by decide +kernel
theorem rt161 : mret 161 = some .int := by decide +kernel
theorem cl161 : mcls 161 = 11 := by decide +kernel
theorem sx161 : mstat 161 = false := by decide +kernel
theorem nx161 : ((mname 161).name == "<init>") = false := by decide +kernel
theorem rt162 : mret 162 = none := by decide +kernel
theorem cl162 : mcls 162 = 11 := by decide +kernel
theorem sx162 : mstat 162 = false := by decide +kernel
theorem nx162 : ((mname 162).name == "<init>") = false := by decide +kernel
theorem rt163 : mret 163 = none := by decide +kernel
theorem cl163 : mcls 163 = 11 := by decide +kernel
theorem sx163 : mstat 163 = false := by decide +kernel
theorem nx163 : ((mname 163).name == "<init>") = false := by decide +kernel
theorem rt164 : mret 164 = none := by decide +kernel
theorem cl164 : mcls 164 = 12 := by decide +kernel
theorem sx164 : mstat 164 = false := by decide +kernel
theorem nx164 : ((mname 164).name == "<init>") = true := by decide +kernel
theorem ny164 : (mname 164).name = "<init>" ∧ mcls 164 = 12 := by decide +kernel
theorem rt165 : mret 165 = some .boolean := by decide +kernel
theorem cl165 : mcls 165 = 12 := by decide +kernel
theorem sx165 : mstat 165 = false := by decide +kernel
theorem nx165 : ((mname 165).name == "<init>") = false := by decide +kernel
theorem rt166 : mret 166 = some .int := by decide +kernel
theorem cl166 : mcls 166 = 12 := by decide +kernel
theorem sx166 : mstat 166 = false := by decide +kernel
theorem nx166 : ((mname 166).name == "<init>") = false := by decide +kernel
theorem rt167 : mret 167 = some .int := by decide +kernel
theorem cl167 : mcls 167 = 12 := by decide +kernel
theorem sx167 : mstat 167 = false := by decide +kernel
theorem nx167 : ((mname 167).name == "<init>") = false := by decide +kernel
theorem rt168 : mret 168 = some .int := by decide +kernel
theorem cl168 : mcls 168 = 12 := by decide +kernel
theorem sx168 : mstat 168 = false := by decide +kernel
theorem nx168 : ((mname 168).name == "<init>") = false := by decide +kernel
theorem rt169 : mret 169 = some .boolean := by decide +kernel
theorem cl169 : mcls 169 = 12 := by decide +kernel
theorem sx169 : mstat 169 = false := by decide +kernel
theorem nx169 : ((mname 169).name == "<init>") = false := by decide +kernel
theorem rt170 : mret 170 = some .int := by decide +kernel
theorem cl170 : mcls 170 = 12 := by decide +kernel
theorem sx170 : mstat 170 = false := by decide +kernel
theorem nx170 : ((mname 170).name == "<init>") = false := by decide +kernel
theorem rt171 : mret 171 = some .int := by decide +kernel
theorem cl171 : mcls 171 = 12 := by decide +kernel
theorem sx171 : mstat 171 = false := by decide +kernel
theorem nx171 : ((mname 171).name == "<init>") = false := by decide +kernel
theorem rt172 : mret 172 = some .boolean := by decide +kernel
theorem cl172 : mcls 172 = 12 := by decide +kernel
theorem sx172 : mstat 172 = false := by decide +kernel
theorem nx172 : ((mname 172).name == "<init>") = false := by decide +kernel
theorem rt173 : mret 173 = some .boolean := by decide +kernel
theorem cl173 : mcls 173 = 12 := by decide +kernel
theorem sx173 : mstat 173 = false := by decide +kernel
theorem nx173 : ((mname 173).name == "<init>") = false := by decide +kernel
theorem rt174 : mret 174 = some .int := by decide +kernel
theorem cl174 : mcls 174 = 12 := by decide +kernel
theorem sx174 : mstat 174 = false := by decide +kernel
theorem nx174 : ((mname 174).name == "<init>") = false := by decide +kernel
theorem rt175 : mret 175 = some .int := by decide +kernel
theorem cl175 : mcls 175 = 12 := by decide +kernel
theorem sx175 : mstat 175 = false := by decide +kernel
theorem nx175 : ((mname 175).name == "<init>") = false := by decide +kernel
theorem rt176 : mret 176 = some .int := by decide +kernel
theorem cl176 : mcls 176 = 12 := by decide +kernel
theorem sx176 : mstat 176 = false := by decide +kernel
theorem nx176 : ((mname 176).name == "<init>") = false := by decide +kernel
theorem rt177 : mret 177 = some .int := by decide +kernel
theorem cl177 : mcls 177 = 12 := by decide +kernel
theorem sx177 : mstat 177 = false := by decide +kernel
theorem nx177 : ((mname 177).name == "<init>") = false := by decide +kernel
theorem rt178 : mret 178 = some .int := by decide +kernel
theorem cl178 : mcls 178 = 12 := by decide +kernel
theorem sx178 : mstat 178 = false := by decide +kernel
theorem nx178 : ((mname 178).name == "<init>") = false := by decide +kernel
theorem rt179 : mret 179 = some .boolean := by decide +kernel
theorem cl179 : mcls 179 = 12 := by decide +kernel
theorem sx179 : mstat 179 = false := by decide +kernel
theorem nx179 : ((mname 179).name == "<init>") = false := by decide +kernel
theorem rt180 : mret 180 = some .int := by decide +kernel
theorem cl180 : mcls 180 = 12 := by decide +kernel
theorem sx180 : mstat 180 = false := by decide +kernel
theorem nx180 : ((mname 180).name == "<init>") = false := by decide +kernel
theorem rt181 : mret 181 = some .int := by decide +kernel
theorem cl181 : mcls 181 = 12 := by decide +kernel
theorem sx181 : mstat 181 = false := by decide +kernel
theorem nx181 : ((mname 181).name == "<init>") = false := by decide +kernel
theorem rt182 : mret 182 = some .boolean := by decide +kernel
theorem cl182 : mcls 182 = 12 := by decide +kernel
theorem sx182 : mstat 182 = false := by decide +kernel
theorem nx182 : ((mname 182).name == "<init>") = false := by decide +kernel
theorem rt183 : mret 183 = some .boolean := by decide +kernel
theorem cl183 : mcls 183 = 12 := by decide +kernel
theorem sx183 : mstat 183 = false := by decide +kernel
theorem nx183 : ((mname 183).name == "<init>") = false := by decide +kernel
theorem rt184 : mret 184 = some .int := by decide +kernel
theorem cl184 : mcls 184 = 12 := by decide +kernel
theorem sx184 : mstat 184 = false := by decide +kernel
theorem nx184 : ((mname 184).name == "<init>") = false := by decide +kernel
theorem rt185 : mret 185 = none := by decide +kernel
theorem cl185 : mcls 185 = 12 := by decide +kernel
theorem sx185 : mstat 185 = false := by decide +kernel
theorem nx185 : ((mname 185).name == "<init>") = false := by decide +kernel
theorem rt186 : mret 186 = none := by decide +kernel
theorem cl186 : mcls 186 = 12 := by decide +kernel
theorem sx186 : mstat 186 = false := by decide +kernel
theorem nx186 : ((mname 186).name == "<init>") = false := by decide +kernel
theorem rt187 : mret 187 = none := by decide +kernel
theorem cl187 : mcls 187 = 12 := by decide +kernel
theorem sx187 : mstat 187 = false := by decide +kernel
theorem nx187 : ((mname 187).name == "<init>") = false := by decide +kernel
theorem rt188 : mret 188 = none := by decide +kernel
theorem cl188 : mcls 188 = 12 := by decide +kernel
theorem sx188 : mstat 188 = false := by decide +kernel
theorem nx188 : ((mname 188).name == "<init>") = false := by decide +kernel
theorem rt189 : mret 189 = some .int := by decide +kernel
theorem cl189 : mcls 189 = 12 := by decide +kernel
theorem sx189 : mstat 189 = false := by decide +kernel
theorem nx189 : ((mname 189).name == "<init>") = false := by decide +kernel
theorem rt190 : mret 190 = none := by decide +kernel
theorem cl190 : mcls 190 = 12 := by decide +kernel
theorem sx190 : mstat 190 = false := by decide +kernel
theorem nx190 : ((mname 190).name == "<init>") = false := by decide +kernel
theorem rt191 : mret 191 = some .boolean := by decide +kernel
theorem cl191 : mcls 191 = 12 := by decide +kernel
theorem sx191 : mstat 191 = false := by decide +kernel
theorem nx191 : ((mname 191).name == "<init>") = false := by decide +kernel
theorem rt192 : mret 192 = some .int := by decide +kernel
theorem cl192 : mcls 192 = 12 := by decide +kernel
theorem sx192 : mstat 192 = false := by decide +kernel
theorem nx192 : ((mname 192).name == "<init>") = false := by decide +kernel
theorem rt193 : mret 193 = some .boolean := by decide +kernel
theorem cl193 : mcls 193 = 12 := by decide +kernel
theorem sx193 : mstat 193 = false := by decide +kernel
theorem nx193 : ((mname 193).name == "<init>") = false := by decide +kernel
theorem rt194 : mret 194 = some .boolean := by decide +kernel
theorem cl194 : mcls 194 = 12 := by decide +kernel
theorem sx194 : mstat 194 = false := by decide +kernel
theorem nx194 : ((mname 194).name == "<init>") = false := by decide +kernel
theorem rt195 : mret 195 = some .int := by decide +kernel
theorem cl195 : mcls 195 = 12 := by decide +kernel
theorem sx195 : mstat 195 = false := by decide +kernel
theorem nx195 : ((mname 195).name == "<init>") = false := by decide +kernel
theorem rt196 : mret 196 = some .int := by decide +kernel
theorem cl196 : mcls 196 = 12 := by decide +kernel
theorem sx196 : mstat 196 = false := by decide +kernel
theorem nx196 : ((mname 196).name == "<init>") = false := by decide +kernel
theorem rt197 : mret 197 = some .int := by decide +kernel
theorem cl197 : mcls 197 = 12 := by decide +kernel
theorem sx197 : mstat 197 = false := by decide +kernel
theorem nx197 : ((mname 197).name == "<init>") = false := by decide +kernel
theorem rt198 : mret 198 = some .int := by decide +kernel
theorem cl198 : mcls 198 = 12 := by decide +kernel
theorem sx198 : mstat 198 = false := by decide +kernel
theorem nx198 : ((mname 198).name == "<init>") = false := by decide +kernel
theorem rt199 : mret 199 = some .int := by decide +kernel
theorem cl199 : mcls 199 = 12 := by decide +kernel
theorem sx199 : mstat 199 = false := by decide +kernel
theorem nx199 : ((mname 199).name == "<init>") = false := by decide +kernel
theorem rt200 : mret 200 = some .int := by decide +kernel
theorem cl200 : mcls 200 = 12 := by decide +kernel
theorem sx200 : mstat 200 = false := by decide +kernel
theorem nx200 : ((mname 200).name == "<init>") = false := by decide +kernel
theorem rt201 : mret 201 = some .boolean := by decide +kernel
theorem cl201 : mcls 201 = 12 := by decide +kernel
theorem sx201 : mstat 201 = false := by decide +kernel
theorem nx201 : ((mname 201).name == "<init>") = false := by decide +kernel
theorem rt202 : mret 202 = some .int := by decide +kernel
theorem cl202 : mcls 202 = 12 := by decide +kernel
theorem sx202 : mstat 202 = false := by decide +kernel
theorem nx202 : ((mname 202).name == "<init>") = false := by decide +kernel
theorem rt203 : mret 203 = some .boolean := by decide +kernel
theorem cl203 : mcls 203 = 12 := by decide +kernel
theorem sx203 : mstat 203 = false := by decide +kernel
theorem nx203 : ((mname 203).name == "<init>") = false := by decide +kernel
theorem rt204 : mret 204 = some .int := by decide +kernel
theorem cl204 : mcls 204 = 12 := by decide +kernel
theorem sx204 : mstat 204 = false := by decide +kernel
theorem nx204 : ((mname 204).name == "<init>") = false := by decide +kernel
theorem rt205 : mret 205 = some .boolean := by decide +kernel
theorem cl205 : mcls 205 = 12 := by decide +kernel
theorem sx205 : mstat 205 = false := by decide +kernel
theorem nx205 : ((mname 205).name == "<init>") = false := by decide +kernel
theorem rt206 : mret 206 = some .int := by decide +kernel
theorem cl206 : mcls 206 = 12 := by decide +kernel
theorem sx206 : mstat 206 = false := by decide +kernel
theorem nx206 : ((mname 206).name == "<init>") = false := by decide +kernel
theorem rt207 : mret 207 = some .int := by decide +kernel
theorem cl207 : mcls 207 = 12 := by decide +kernel
theorem sx207 : mstat 207 = false := by decide +kernel
theorem nx207 : ((mname 207).name == "<init>") = false := by decide +kernel
theorem rt208 : mret 208 = some .int := by decide +kernel
theorem cl208 : mcls 208 = 12 := by decide +kernel
theorem sx208 : mstat 208 = false := by decide +kernel
theorem nx208 : ((mname 208).name == "<init>") = false := by decide +kernel
theorem rt209 : mret 209 = some .int := by decide +kernel
theorem cl209 : mcls 209 = 12 := by decide +kernel
theorem sx209 : mstat 209 = false := by decide +kernel
theorem nx209 : ((mname 209).name == "<init>") = false := by decide +kernel
theorem rt210 : mret 210 = none := by decide +kernel
theorem cl210 : mcls 210 = 12 := by decide +kernel
theorem sx210 : mstat 210 = false := by decide +kernel
theorem nx210 : ((mname 210).name == "<init>") = false := by decide +kernel
theorem rt211 : mret 211 = some .boolean := by decide +kernel
theorem cl211 : mcls 211 = 12 := by decide +kernel
theorem sx211 : mstat 211 = false := by decide +kernel
theorem nx211 : ((mname 211).name == "<init>") = false := by decide +kernel
theorem rt212 : mret 212 = none := by decide +kernel
theorem cl212 : mcls 212 = 12 := by decide +kernel
theorem sx212 : mstat 212 = false := by decide +kernel
theorem nx212 : ((mname 212).name == "<init>") = false := by decide +kernel
theorem rt213 : mret 213 = none := by decide +kernel
theorem cl213 : mcls 213 = 12 := by decide +kernel
theorem sx213 : mstat 213 = false := by decide +kernel
theorem nx213 : ((mname 213).name == "<init>") = false := by decide +kernel
theorem rt214 : mret 214 = none := by decide +kernel
theorem cl214 : mcls 214 = 12 := by decide +kernel
theorem sx214 : mstat 214 = false := by decide +kernel
theorem nx214 : ((mname 214).name == "<init>") = false := by decide +kernel
theorem rt215 : mret 215 = none := by decide +kernel
theorem cl215 : mcls 215 = 12 := by decide +kernel
theorem sx215 : mstat 215 = false := by decide +kernel
theorem nx215 : ((mname 215).name == "<init>") = false := by decide +kernel
theorem rt216 : mret 216 = none := by decide +kernel
theorem cl216 : mcls 216 = 12 := by decide +kernel
theorem sx216 : mstat 216 = false := by decide +kernel
theorem nx216 : ((mname 216).name == "<init>") = false := by decide +kernel
theorem rt217 : mret 217 = none := by decide +kernel
theorem cl217 : mcls 217 = 12 := by decide +kernel
theorem sx217 : mstat 217 = false := by decide +kernel
theorem nx217 : ((mname 217).name == "<init>") = false := by decide +kernel
theorem rt218 : mret 218 = some .int := by decide +kernel
theorem cl218 : mcls 218 = 12 := by decide +kernel
theorem sx218 : mstat 218 = false := by decide +kernel
theorem nx218 : ((mname 218).name == "<init>") = false := by decide +kernel
theorem rt219 : mret 219 = some .boolean := by decide +kernel
theorem cl219 : mcls 219 = 12 := by decide +kernel
theorem sx219 : mstat 219 = false := by decide +kernel
theorem nx219 : ((mname 219).name == "<init>") = false := by decide +kernel
theorem rt220 : mret 220 = some .int := by decide +kernel
theorem cl220 : mcls 220 = 12 := by decide +kernel
theorem sx220 : mstat 220 = false := by decide +kernel
theorem nx220 : ((mname 220).name == "<init>") = false := by decide +kernel
theorem rt221 : mret 221 = some .boolean := by decide +kernel
theorem cl221 : mcls 221 = 12 := by decide +kernel
theorem sx221 : mstat 221 = false := by decide +kernel
theorem nx221 : ((mname 221).name == "<init>") = false := by decide +kernel
theorem rt222 : mret 222 = some .int := by decide +kernel
theorem cl222 : mcls 222 = 12 := by decide +kernel
theorem sx222 : mstat 222 = false := by decide +kernel
theorem nx222 : ((mname 222).name == "<init>") = false := by decide +kernel
theorem rt223 : mret 223 = none := by decide +kernel
theorem cl223 : mcls 223 = 12 := by decide +kernel
theorem sx223 : mstat 223 = false := by decide +kernel
theorem nx223 : ((mname 223).name == "<init>") = false := by decide +kernel
theorem rt224 : mret 224 = none := by decide +kernel
theorem cl224 : mcls 224 = 12 := by decide +kernel
theorem sx224 : mstat 224 = false := by decide +kernel
theorem nx224 : ((mname 224).name == "<init>") = false := by decide +kernel
theorem rt225 : mret 225 = some .boolean := by decide +kernel
theorem cl225 : mcls 225 = 12 := by decide +kernel
theorem sx225 : mstat 225 = false := by decide +kernel
theorem nx225 : ((mname 225).name == "<init>") = false := by decide +kernel
theorem rt226 : mret 226 = some .int := by decide +kernel
theorem cl226 : mcls 226 = 12 := by decide +kernel
theorem sx226 : mstat 226 = false := by decide +kernel
theorem nx226 : ((mname 226).name == "<init>") = false := by decide +kernel
theorem rt227 : mret 227 = some .int := by decide +kernel
theorem cl227 : mcls 227 = 12 := by decide +kernel
theorem sx227 : mstat 227 = false := by decide +kernel
theorem nx227 : ((mname 227).name == "<init>") = false := by decide +kernel
theorem rt228 : mret 228 = some .boolean := by decide +kernel
theorem cl228 : mcls 228 = 12 := by decide +kernel
theorem sx228 : mstat 228 = false := by decide +kernel
theorem nx228 : ((mname 228).name == "<init>") = false := by decide +kernel
theorem rt229 : mret 229 = some .boolean := by decide +kernel
theorem cl229 : mcls 229 = 12 := by decide +kernel
theorem sx229 : mstat 229 = false := by decide +kernel
theorem nx229 : ((mname 229).name == "<init>") = false := by decide +kernel
theorem rt230 : mret 230 = some .boolean := by decide +kernel
theorem cl230 : mcls 230 = 12 := by decide +kernel
theorem sx230 : mstat 230 = false := by decide +kernel
theorem nx230 : ((mname 230).name == "<init>") = false := by decide +kernel
theorem rt231 : mret 231 = some .boolean := by decide +kernel
theorem cl231 : mcls 231 = 12 := by decide +kernel
theorem sx231 : mstat 231 = false := by decide +kernel
theorem nx231 : ((mname 231).name == "<init>") = false := by decide +kernel
theorem rt232 : mret 232 = some .int := by decide +kernel
theorem cl232 : mcls 232 = 12 := by decide +kernel
theorem sx232 : mstat 232 = false := by decide +kernel
theorem nx232 : ((mname 232).name == "<init>") = false := by decide +kernel
theorem rt233 : mret 233 = some .int := by decide +kernel
theorem cl233 : mcls 233 = 12 := by decide +kernel
theorem sx233 : mstat 233 = false := by decide +kernel
theorem nx233 : ((mname 233).name == "<init>") = false := by decide +kernel
theorem rt234 : mret 234 = some .boolean := by decide +kernel
theorem cl234 : mcls 234 = 12 := by decide +kernel
theorem sx234 : mstat 234 = false := by decide +kernel
theorem nx234 : ((mname 234).name == "<init>") = false := by decide +kernel
theorem rt235 : mret 235 = some .boolean := by decide +kernel
theorem cl235 : mcls 235 = 12 := by decide +kernel
theorem sx235 : mstat 235 = false := by decide +kernel
theorem nx235 : ((mname 235).name == "<init>") = false := by decide +kernel
theorem rt236 : mret 236 = none := by decide +kernel
theorem cl236 : mcls 236 = 12 := by decide +kernel
theorem sx236 : mstat 236 = false := by decide +kernel
theorem nx236 : ((mname 236).name == "<init>") = false := by decide +kernel
theorem rt237 : mret 237 = some .boolean := by decide +kernel
theorem cl237 : mcls 237 = 12 := by decide +kernel
theorem sx237 : mstat 237 = false := by decide +kernel
theorem nx237 : ((mname 237).name == "<init>") = false := by decide +kernel
theorem rt238 : mret 238 = some .int := by decide +kernel
theorem cl238 : mcls 238 = 12 := by decide +kernel
theorem sx238 : mstat 238 = false := by decide +kernel
theorem nx238 : ((mname 238).name == "<init>") = false := by decide +kernel
theorem rt239 : mret 239 = some .boolean := by decide +kernel
theorem cl239 : mcls 239 = 12 := by decide +kernel
theorem sx239 : mstat 239 = false := by decide +kernel
theorem nx239 : ((mname 239).name == "<init>") = false := by decide +kernel
theorem rt240 : mret 240 = some .boolean := by decide +kernel
theorem cl240 : mcls 240 = 12 := by decide +kernel
theorem sx240 : mstat 240 = false := by decide +kernel
theorem nx240 : ((mname 240).name == "<init>") = false := by decide +kernel
theorem rt241 : mret 241 = some .boolean := by decide +kernel
theorem cl241 : mcls 241 = 12 := by decide +kernel
theorem sx241 : mstat 241 = false := by decide +kernel
theorem nx241 : ((mname 241).name == "<init>") = false := by decide +kernel
theorem rt242 : mret 242 = some .int := by decide +kernel
theorem cl242 : mcls 242 = 12 := by decide +kernel
theorem sx242 : mstat 242 = false := by decide +kernel
theorem nx242 : ((mname 242).name == "<init>") = false := by decide +kernel
theorem rt243 : mret 243 = some .int := by decide +kernel
theorem cl243 : mcls 243 = 12 := by decide +kernel
theorem sx243 : mstat 243 = false := by decide +kernel
theorem nx243 : ((mname 243).name == "<init>") = false := by decide +kernel
theorem rt244 : mret 244 = none := by decide +kernel
theorem cl244 : mcls 244 = 12 := by decide +kernel
theorem sx244 : mstat 244 = false := by decide +kernel
theorem nx244 : ((mname 244).name == "<init>") = false := by decide +kernel
theorem rt245 : mret 245 = some .int := by decide +kernel
theorem cl245 : mcls 245 = 12 := by decide +kernel
theorem sx245 : mstat 245 = false := by decide +kernel
theorem nx245 : ((mname 245).name == "<init>") = false := by decide +kernel
theorem rt246 : mret 246 = none := by decide +kernel
theorem cl246 : mcls 246 = 12 := by decide +kernel
theorem sx246 : mstat 246 = false := by decide +kernel
theorem nx246 : ((mname 246).name == "<init>") = false := by decide +kernel
theorem rt247 : mret 247 = some .int := by decide +kernel
theorem cl247 : mcls 247 = 12 := by decide +kernel
theorem sx247 : mstat 247 = false := by decide +kernel
theorem nx247 : ((mname 247).name == "<init>") = false := by decide +kernel
theorem rt248 : mret 248 = some .boolean := by decide +kernel
theorem cl248 : mcls 248 = 12 := by decide +kernel
theorem sx248 : mstat 248 = false := by decide +kernel
theorem nx248 : ((mname 248).name == "<init>") = false := by decide +kernel
theorem rt249 : mret 249 = some .int := by decide +kernel
theorem cl249 : mcls 249 = 12 := by decide +kernel
theorem sx249 : mstat 249 = false := by decide +kernel
theorem nx249 : ((mname 249).name == "<init>") = false := by decide +kernel
theorem rt250 : mret 250 = some .int := by decide +kernel
theorem cl250 : mcls 250 = 12 := by decide +kernel
theorem sx250 : mstat 250 = false := by decide +kernel
theorem nx250 : ((mname 250).name == "<init>") = false := by decide +kernel
theorem rt251 : mret 251 = some .int := by decide +kernel
theorem cl251 : mcls 251 = 12 := by decide +kernel
theorem sx251 : mstat 251 = false := by decide +kernel
theorem nx251 : ((mname 251).name == "<init>") = false := by decide +kernel
theorem rt252 : mret 252 = some .int := by decide +kernel
theorem cl252 : mcls 252 = 12 := by decide +kernel
theorem sx252 : mstat 252 = false := by decide +kernel
theorem nx252 : ((mname 252).name == "<init>") = false := by decide +kernel
theorem rt253 : mret 253 = some .int := by decide +kernel
theorem cl253 : mcls 253 = 12 := by decide +kernel
theorem sx253 : mstat 253 = false := by decide +kernel
theorem nx253 : ((mname 253).name == "<init>") = false := by decide +kernel
theorem rt254 : mret 254 = some .int := by decide +kernel
theorem cl254 : mcls 254 = 12 := by decide +kernel
theorem sx254 : mstat 254 = false := by decide +kernel
theorem nx254 : ((mname 254).name == "<init>") = false := by decide +kernel
theorem rt255 : mret 255 = some .int := by decide +kernel
theorem cl255 : mcls 255 = 12 := by decide +kernel
theorem sx255 : mstat 255 = false := by decide +kernel
theorem nx255 : ((mname 255).name == "<init>") = false := by decide +kernel
theorem rt256 : mret 256 = some .int := by decide +kernel
theorem cl256 : mcls 256 = 12 := by decide +kernel
theorem sx256 : mstat 256 = false := by decide +kernel
theorem nx256 : ((mname 256).name == "<init>") = false := by decide +kernel
theorem rt257 : mret 257 = some .int := by decide +kernel
theorem cl257 : mcls 257 = 12 := by decide +kernel
theorem sx257 : mstat 257 = false := by decide +kernel
theorem nx257 : ((mname 257).name == "<init>") = false := by decide +kernel
theorem rt258 : mret 258 = some .int := by decide +kernel
theorem cl258 : mcls 258 = 12 := by decide +kernel
theorem sx258 : mstat 258 = false := by decide +kernel
theorem nx258 : ((mname 258).name == "<init>") = false := by decide +kernel
theorem rt259 : mret 259 = some .int := by decide +kernel
theorem cl259 : mcls 259 = 12 := by decide +kernel
theorem sx259 : mstat 259 = false := by decide +kernel
theorem nx259 : ((mname 259).name == "<init>") = false := by decide +kernel
theorem rt260 : mret 260 = some .int := by decide +kernel
theorem cl260 : mcls 260 = 12 := by decide +kernel
theorem sx260 : mstat 260 = false := by decide +kernel
theorem nx260 : ((mname 260).name == "<init>") = false := by decide +kernel
theorem rt261 : mret 261 = some .int := by decide +kernel
theorem cl261 : mcls 261 = 12 := by decide +kernel
theorem sx261 : mstat 261 = false := by decide +kernel
theorem nx261 : ((mname 261).name == "<init>") = false := by decide +kernel
theorem rt262 : mret 262 = some .int := by decide +kernel
theorem cl262 : mcls 262 = 12 := by decide +kernel
theorem sx262 : mstat 262 = false := by decide +kernel
theorem nx262 : ((mname 262).name == "<init>") = false := by decide +kernel
theorem rt263 : mret 263 = some .int := by decide +kernel
theorem cl263 : mcls 263 = 12 := by decide +kernel
theorem sx263 : mstat 263 = false := by decide +kernel
theorem nx263 : ((mname 263).name == "<init>") = false := by decide +kernel
theorem rt264 : mret 264 = some .int := by decide +kernel
theorem cl264 : mcls 264 = 12 := by decide +kernel
theorem sx264 : mstat 264 = false := by decide +kernel
theorem nx264 : ((mname 264).name == "<init>") = false := by decide +kernel
theorem rt265 : mret 265 = some .long := by decide +kernel
theorem cl265 : mcls 265 = 12 := by decide +kernel
theorem sx265 : mstat 265 = false := by decide +kernel
theorem nx265 : ((mname 265).name == "<init>") = false := by decide +kernel
theorem rt266 : mret 266 = some .long := by decide +kernel
theorem cl266 : mcls 266 = 12 := by decide +kernel
theorem sx266 : mstat 266 = false := by decide +kernel
theorem nx266 : ((mname 266).name == "<init>") = false := by decide +kernel
theorem rt267 : mret 267 = some .int := by decide +kernel
theorem cl267 : mcls 267 = 12 := by decide +kernel
theorem sx267 : mstat 267 = false := by decide +kernel
theorem nx267 : ((mname 267).name == "<init>") = false := by decide +kernel
theorem rt268 : mret 268 = some .int := by decide +kernel
theorem cl268 : mcls 268 = 12 := by decide +kernel
theorem sx268 : mstat 268 = false := by decide +kernel
theorem nx268 : ((mname 268).name == "<init>") = false := by decide +kernel
theorem rt269 : mret 269 = some .int := by decide +kernel
theorem cl269 : mcls 269 = 12 := by decide +kernel
theorem sx269 : mstat 269 = false := by decide +kernel
theorem nx269 : ((mname 269).name == "<init>") = false := by decide +kernel
theorem rt270 : mret 270 = some .boolean := by decide +kernel
theorem cl270 : mcls 270 = 12 := by decide +kernel
theorem sx270 : mstat 270 = false := by decide +kernel
theorem nx270 : ((mname 270).name == "<init>") = false := by decide +kernel
theorem rt271 : mret 271 = none := by decide +kernel
theorem cl271 : mcls 271 = 12 := by decide +kernel
theorem sx271 : mstat 271 = false := by decide +kernel
theorem nx271 : ((mname 271).name == "<init>") = false := by decide +kernel
theorem rt272 : mret 272 = some .int := by decide +kernel
theorem cl272 : mcls 272 = 12 := by decide +kernel
theorem sx272 : mstat 272 = false := by decide +kernel
theorem nx272 : ((mname 272).name == "<init>") = false := by decide +kernel
theorem rt273 : mret 273 = some .int := by decide +kernel
theorem cl273 : mcls 273 = 12 := by decide +kernel
theorem sx273 : mstat 273 = false := by decide +kernel
theorem nx273 : ((mname 273).name == "<init>") = false := by decide +kernel
theorem rt274 : mret 274 = some .boolean := by decide +kernel
theorem cl274 : mcls 274 = 12 := by decide +kernel
theorem sx274 : mstat 274 = false := by decide +kernel
theorem nx274 : ((mname 274).name == "<init>") = false := by decide +kernel
theorem rt275 : mret 275 = some .int := by decide +kernel
theorem cl275 : mcls 275 = 12 := by decide +kernel
theorem sx275 : mstat 275 = false := by decide +kernel
theorem nx275 : ((mname 275).name == "<init>") = false := by decide +kernel
theorem rt276 : mret 276 = some .int := by decide +kernel
theorem cl276 : mcls 276 = 12 := by decide +kernel
theorem sx276 : mstat 276 = false := by decide +kernel
theorem nx276 : ((mname 276).name == "<init>") = false := by decide +kernel
theorem rt277 : mret 277 = none := by decide +kernel
theorem cl277 : mcls 277 = 12 := by decide +kernel
theorem sx277 : mstat 277 = false := by decide +kernel
theorem nx277 : ((mname 277).name == "<init>") = false := by decide +kernel
theorem rt278 : mret 278 = some .int := by decide +kernel
theorem cl278 : mcls 278 = 12 := by decide +kernel
theorem sx278 : mstat 278 = false := by decide +kernel
theorem nx278 : ((mname 278).name == "<init>") = false := by decide +kernel
theorem rt279 : mret 279 = some .int := by decide +kernel
theorem cl279 : mcls 279 = 12 := by decide +kernel
theorem sx279 : mstat 279 = false := by decide +kernel
theorem nx279 : ((mname 279).name == "<init>") = false := by decide +kernel
theorem rt280 : mret 280 = some .int := by decide +kernel
theorem cl280 : mcls 280 = 12 := by decide +kernel
theorem sx280 : mstat 280 = false := by decide +kernel
theorem nx280 : ((mname 280).name == "<init>") = false := by decide +kernel
theorem rt281 : mret 281 = some .int := by decide +kernel
theorem cl281 : mcls 281 = 12 := by decide +kernel
theorem sx281 : mstat 281 = false := by decide +kernel
theorem nx281 : ((mname 281).name == "<init>") = false := by decide +kernel
theorem rt282 : mret 282 = some .boolean := by decide +kernel
theorem cl282 : mcls 282 = 12 := by decide +kernel
theorem sx282 : mstat 282 = false := by decide +kernel
theorem nx282 : ((mname 282).name == "<init>") = false := by decide +kernel
theorem rt283 : mret 283 = some .int := by decide +kernel
theorem cl283 : mcls 283 = 12 := by decide +kernel
theorem sx283 : mstat 283 = false := by decide +kernel
theorem nx283 : ((mname 283).name == "<init>") = false := by decide +kernel
theorem rt284 : mret 284 = some .int := by decide +kernel
theorem cl284 : mcls 284 = 12 := by decide +kernel
theorem sx284 : mstat 284 = false := by decide +kernel
theorem nx284 : ((mname 284).name == "<init>") = false := by decide +kernel
theorem rt285 : mret 285 = some .int := by decide +kernel
theorem cl285 : mcls 285 = 12 := by decide +kernel
theorem sx285 : mstat 285 = false := by decide +kernel
theorem nx285 : ((mname 285).name == "<init>") = false := by decide +kernel
theorem rt286 : mret 286 = some .int := by decide +kernel
theorem cl286 : mcls 286 = 12 := by decide +kernel
theorem sx286 : mstat 286 = false := by decide +kernel
theorem nx286 : ((mname 286).name == "<init>") = false := by decide +kernel
theorem rt287 : mret 287 = some .int := by decide +kernel
theorem cl287 : mcls 287 = 12 := by decide +kernel
theorem sx287 : mstat 287 = false := by decide +kernel
theorem nx287 : ((mname 287).name == "<init>") = false := by decide +kernel
theorem rt288 : mret 288 = some .int := by decide +kernel
theorem cl288 : mcls 288 = 13 := by decide +kernel
theorem sx288 : mstat 288 = true := by decide +kernel
theorem nx288 : ((mname 288).name == "<init>") = false := by decide +kernel
theorem rt289 : mret 289 = some .long := by decide +kernel
theorem cl289 : mcls 289 = 13 := by decide +kernel
theorem sx289 : mstat 289 = true := by decide +kernel
theorem nx289 : ((mname 289).name == "<init>") = false := by decide +kernel
theorem rt290 : mret 290 = some .int := by decide +kernel
theorem cl290 : mcls 290 = 13 := by decide +kernel
theorem sx290 : mstat 290 = true := by decide +kernel
theorem nx290 : ((mname 290).name == "<init>") = false := by decide +kernel
theorem rt291 : mret 291 = some .int := by decide +kernel
theorem cl291 : mcls 291 = 13 := by decide +kernel
theorem sx291 : mstat 291 = true := by decide +kernel
theorem nx291 : ((mname 291).name == "<init>") = false := by decide +kernel
theorem rt292 : mret 292 = none := by decide +kernel
theorem cl292 : mcls 292 = 14 := by decide +kernel
theorem sx292 : mstat 292 = true := by decide +kernel
theorem nx292 : ((mname 292).name == "<init>") = false := by decide +kernel
theorem rt293 : mret 293 = none := by decide +kernel
theorem cl293 : mcls 293 = 14 := by decide +kernel
theorem sx293 : mstat 293 = true := by decide +kernel
theorem nx293 : ((mname 293).name == "<init>") = false := by decide +kernel
theorem rt294 : mret 294 = none := by decide +kernel
theorem cl294 : mcls 294 = 14 := by decide +kernel
theorem sx294 : mstat 294 = true := by decide +kernel
theorem nx294 : ((mname 294).name == "<init>") = false := by decide +kernel
theorem rt295 : mret 295 = some .boolean := by decide +kernel
theorem cl295 : mcls 295 = 15 := by decide +kernel
theorem sx295 : mstat 295 = true := by decide +kernel
theorem nx295 : ((mname 295).name == "<init>") = false := by decide +kernel
theorem p0_3 : pool (mcls 0) 3 = some (7, 0, 0) := by decide +kernel
theorem p0_9 : pool (mcls 0) 9 = some (5, 10, 3) := by decide +kernel
theorem p0_11 : pool (mcls 0) 11 = some (3, 0, 2) := by decide +kernel
theorem p1_11 : pool (mcls 1) 11 = some (3, 0, 2) := by decide +kernel
theorem p1_17 : pool (mcls 1) 17 = some (1, 0, 1) := by decide +kernel
theorem p1_9 : pool (mcls 1) 9 = some (5, 10, 3) := by decide +kernel
theorem p1_21 : pool (mcls 1) 21 = some (5, 2, 6) := by decide +kernel
theorem p1_23 : pool (mcls 1) 23 = some (4, 7, 0) := by decide +kernel
theorem p1_24 : pool (mcls 1) 24 = some (4, 106, 1) := by decide +kernel
theorem p1_27 : pool (mcls 1) 27 = some (4, 107, 1) := by decide +kernel
theorem p1_31 : pool (mcls 1) 31 = some (1, 0, 0) := by decide +kernel
theorem p1_34 : pool (mcls 1) 34 = some (4, 291, 2) := by decide +kernel
theorem p2_17 : pool (mcls 2) 17 = some (1, 0, 1) := by decide +kernel
theorem p2_31 : pool (mcls 2) 31 = some (1, 0, 0) := by decide +kernel
theorem p2_11 : pool (mcls 2) 11 = some (3, 0, 2) := by decide +kernel
theorem p2_27 : pool (mcls 2) 27 = some (4, 107, 1) := by decide +kernel
theorem p3_3 : pool (mcls 3) 3 = some (7, 0, 0) := by decide +kernel
theorem p3_9 : pool (mcls 3) 9 = some (3, 1, 3) := by decide +kernel
theorem p3_15 : pool (mcls 3) 15 = some (3, 1, 4) := by decide +kernel
theorem p4_19 : pool (mcls 4) 19 = some (1, 1, 0) := by decide +kernel
theorem p4_23 : pool (mcls 4) 23 = some (1, 1, 1) := by decide +kernel
theorem p4_26 : pool (mcls 4) 26 = some (1, 1, 2) := by decide +kernel
theorem p4_29 : pool (mcls 4) 29 = some (4, 10, 0) := by decide +kernel
theorem p4_9 : pool (mcls 4) 9 = some (3, 1, 3) := by decide +kernel
theorem p4_35 : pool (mcls 4) 35 = some (4, 56, 1) := by decide +kernel
theorem p4_41 : pool (mcls 4) 41 = some (3, 5, 4) := by decide +kernel
theorem p4_44 : pool (mcls 4) 44 = some (4, 5, 2) := by decide +kernel
theorem p5_48 : pool (mcls 5) 48 = some (1, 1, 5) := by decide +kernel
theorem p5_51 : pool (mcls 5) 51 = some (4, 6, 1) := by decide +kernel
theorem p5_15 : pool (mcls 5) 15 = some (3, 1, 4) := by decide +kernel
theorem p5_55 : pool (mcls 5) 55 = some (4, 22, 2) := by decide +kernel
theorem p5_9 : pool (mcls 5) 9 = some (3, 1, 3) := by decide +kernel
theorem p6_48 : pool (mcls 6) 48 = some (1, 1, 5) := by decide +kernel
theorem p6_9 : pool (mcls 6) 9 = some (3, 1, 3) := by decide +kernel
theorem p6_15 : pool (mcls 6) 15 = some (3, 1, 4) := by decide +kernel
theorem p7_3 : pool (mcls 7) 3 = some (7, 0, 0) := by decide +kernel
theorem p7_9 : pool (mcls 7) 9 = some (3, 2, 2) := by decide +kernel
theorem p7_15 : pool (mcls 7) 15 = some (3, 2, 3) := by decide +kernel
theorem p7_18 : pool (mcls 7) 18 = some (3, 2, 4) := by decide +kernel
theorem p7_22 : pool (mcls 7) 22 = some (3, 2, 5) := by decide +kernel
theorem p7_25 : pool (mcls 7) 25 = some (4, 8, 2) := by decide +kernel
theorem p8_29 : pool (mcls 8) 29 = some (1, 2, 0) := by decide +kernel
theorem p8_33 : pool (mcls 8) 33 = some (1, 2, 1) := by decide +kernel
theorem p8_9 : pool (mcls 8) 9 = some (3, 2, 2) := by decide +kernel
theorem p8_15 : pool (mcls 8) 15 = some (3, 2, 3) := by decide +kernel
theorem p8_18 : pool (mcls 8) 18 = some (3, 2, 4) := by decide +kernel
theorem p8_22 : pool (mcls 8) 22 = some (3, 2, 5) := by decide +kernel
theorem p9_29 : pool (mcls 9) 29 = some (1, 2, 0) := by decide +kernel
theorem p9_33 : pool (mcls 9) 33 = some (1, 2, 1) := by decide +kernel
theorem p9_9 : pool (mcls 9) 9 = some (3, 2, 2) := by decide +kernel
theorem p9_36 : pool (mcls 9) 36 = some (6, 0, 0) := by decide +kernel
theorem p9_15 : pool (mcls 9) 15 = some (3, 2, 3) := by decide +kernel
theorem p9_18 : pool (mcls 9) 18 = some (3, 2, 4) := by decide +kernel
theorem p9_22 : pool (mcls 9) 22 = some (3, 2, 5) := by decide +kernel
theorem p10_29 : pool (mcls 10) 29 = some (1, 2, 0) := by decide +kernel
theorem p10_33 : pool (mcls 10) 33 = some (1, 2, 1) := by decide +kernel
theorem p11_33 : pool (mcls 11) 33 = some (1, 2, 1) := by decide +kernel
theorem p12_33 : pool (mcls 12) 33 = some (1, 2, 1) := by decide +kernel
theorem p13_42 : pool (mcls 13) 42 = some (4, 10, 0) := by decide +kernel
theorem p14_42 : pool (mcls 14) 42 = some (4, 10, 0) := by decide +kernel
theorem p14_46 : pool (mcls 14) 46 = some (4, 12, 1) := by decide +kernel
theorem p14_33 : pool (mcls 14) 33 = some (1, 2, 1) := by decide +kernel
theorem p14_50 : pool (mcls 14) 50 = some (4, 11, 1) := by decide +kernel
theorem p14_29 : pool (mcls 14) 29 = some (1, 2, 0) := by decide +kernel
theorem p15_53 : pool (mcls 15) 53 = some (4, 13, 1) := by decide +kernel
theorem p15_50 : pool (mcls 15) 50 = some (4, 11, 1) := by decide +kernel
theorem p15_29 : pool (mcls 15) 29 = some (1, 2, 0) := by decide +kernel
theorem p15_46 : pool (mcls 15) 46 = some (4, 12, 1) := by decide +kernel
theorem p15_33 : pool (mcls 15) 33 = some (1, 2, 1) := by decide +kernel
theorem p17_33 : pool (mcls 17) 33 = some (1, 2, 1) := by decide +kernel
theorem p18_18 : pool (mcls 18) 18 = some (3, 2, 4) := by decide +kernel
theorem p18_57 : pool (mcls 18) 57 = some (4, 16, 1) := by decide +kernel
theorem p18_60 : pool (mcls 18) 60 = some (4, 17, 1) := by decide +kernel
theorem p20_9 : pool (mcls 20) 9 = some (3, 2, 2) := by decide +kernel
theorem p20_63 : pool (mcls 20) 63 = some (4, 19, 1) := by decide +kernel
theorem p21_57 : pool (mcls 21) 57 = some (4, 16, 1) := by decide +kernel
theorem p21_60 : pool (mcls 21) 60 = some (4, 17, 1) := by decide +kernel
theorem p21_66 : pool (mcls 21) 66 = some (4, 20, 2) := by decide +kernel
theorem p22_33 : pool (mcls 22) 33 = some (1, 2, 1) := by decide +kernel
theorem p22_46 : pool (mcls 22) 46 = some (4, 12, 1) := by decide +kernel
theorem p22_50 : pool (mcls 22) 50 = some (4, 11, 1) := by decide +kernel
theorem p22_29 : pool (mcls 22) 29 = some (1, 2, 0) := by decide +kernel
theorem p23_33 : pool (mcls 23) 33 = some (1, 2, 1) := by decide +kernel
theorem p24_42 : pool (mcls 24) 42 = some (4, 10, 0) := by decide +kernel
theorem p24_18 : pool (mcls 24) 18 = some (3, 2, 4) := by decide +kernel
theorem p25_33 : pool (mcls 25) 33 = some (1, 2, 1) := by decide +kernel
theorem p25_18 : pool (mcls 25) 18 = some (3, 2, 4) := by decide +kernel
theorem p25_66 : pool (mcls 25) 66 = some (4, 20, 2) := by decide +kernel
theorem p26_42 : pool (mcls 26) 42 = some (4, 10, 0) := by decide +kernel
theorem p26_70 : pool (mcls 26) 70 = some (4, 15, 1) := by decide +kernel
theorem p26_73 : pool (mcls 26) 73 = some (4, 25, 1) := by decide +kernel
theorem p27_50 : pool (mcls 27) 50 = some (4, 11, 1) := by decide +kernel
theorem p27_76 : pool (mcls 27) 76 = some (4, 288, 1) := by decide +kernel
theorem p27_46 : pool (mcls 27) 46 = some (4, 12, 1) := by decide +kernel
theorem p28_50 : pool (mcls 28) 50 = some (4, 11, 1) := by decide +kernel
theorem p28_46 : pool (mcls 28) 46 = some (4, 12, 1) := by decide +kernel
theorem p28_29 : pool (mcls 28) 29 = some (1, 2, 0) := by decide +kernel
theorem p28_81 : pool (mcls 28) 81 = some (4, 291, 2) := by decide +kernel
theorem p28_33 : pool (mcls 28) 33 = some (1, 2, 1) := by decide +kernel
theorem p29_84 : pool (mcls 29) 84 = some (4, 28, 1) := by decide +kernel
theorem p29_87 : pool (mcls 29) 87 = some (4, 27, 2) := by decide +kernel
theorem p30_90 : pool (mcls 30) 90 = some (4, 22, 2) := by decide +kernel
theorem p30_18 : pool (mcls 30) 18 = some (3, 2, 4) := by decide +kernel
theorem p30_66 : pool (mcls 30) 66 = some (4, 20, 2) := by decide +kernel
theorem p30_76 : pool (mcls 30) 76 = some (4, 288, 1) := by decide +kernel
theorem p30_93 : pool (mcls 30) 93 = some (4, 290, 2) := by decide +kernel
theorem p31_18 : pool (mcls 31) 18 = some (3, 2, 4) := by decide +kernel
theorem p31_33 : pool (mcls 31) 33 = some (1, 2, 1) := by decide +kernel
theorem p32_33 : pool (mcls 32) 33 = some (1, 2, 1) := by decide +kernel
theorem p32_66 : pool (mcls 32) 66 = some (4, 20, 2) := by decide +kernel
theorem p33_3 : pool (mcls 33) 3 = some (7, 0, 0) := by decide +kernel
theorem p33_9 : pool (mcls 33) 9 = some (3, 3, 0) := by decide +kernel
theorem p33_15 : pool (mcls 33) 15 = some (3, 3, 1) := by decide +kernel
theorem p33_19 : pool (mcls 33) 19 = some (3, 3, 2) := by decide +kernel
theorem p33_22 : pool (mcls 33) 22 = some (3, 3, 3) := by decide +kernel
theorem p34_25 : pool (mcls 34) 25 = some (3, 10, 0) := by decide +kernel
theorem p34_31 : pool (mcls 34) 31 = some (4, 10, 0) := by decide +kernel
theorem p34_9 : pool (mcls 34) 9 = some (3, 3, 0) := by decide +kernel
theorem p34_37 : pool (mcls 34) 37 = some (4, 14, 1) := by decide +kernel
theorem p34_41 : pool (mcls 34) 41 = some (4, 18, 1) := by decide +kernel
theorem p34_44 : pool (mcls 34) 44 = some (4, 109, 1) := by decide +kernel
theorem p35_47 : pool (mcls 35) 47 = some (1, 3, 4) := by decide +kernel
theorem p35_15 : pool (mcls 35) 15 = some (3, 3, 1) := by decide +kernel
theorem p35_51 : pool (mcls 35) 51 = some (4, 293, 2) := by decide +kernel
theorem p35_25 : pool (mcls 35) 25 = some (3, 10, 0) := by decide +kernel
theorem p35_31 : pool (mcls 35) 31 = some (4, 10, 0) := by decide +kernel
theorem p35_57 : pool (mcls 35) 57 = some (3, 10, 2) := by decide +kernel
theorem p35_61 : pool (mcls 35) 61 = some (4, 56, 1) := by decide +kernel
theorem p35_66 : pool (mcls 35) 66 = some (4, 36, 3) := by decide +kernel
theorem p36_70 : pool (mcls 36) 70 = some (4, 22, 2) := by decide +kernel
theorem p36_61 : pool (mcls 36) 61 = some (4, 56, 1) := by decide +kernel
theorem p36_9 : pool (mcls 36) 9 = some (3, 3, 0) := by decide +kernel
theorem p36_74 : pool (mcls 36) 74 = some (4, 23, 2) := by decide +kernel
theorem p36_77 : pool (mcls 36) 77 = some (3, 2, 3) := by decide +kernel
theorem p36_80 : pool (mcls 36) 80 = some (4, 291, 2) := by decide +kernel
theorem p36_85 : pool (mcls 36) 85 = some (4, 37, 3) := by decide +kernel
theorem p37_15 : pool (mcls 37) 15 = some (3, 3, 1) := by decide +kernel
theorem p37_47 : pool (mcls 37) 47 = some (1, 3, 4) := by decide +kernel
theorem p37_22 : pool (mcls 37) 22 = some (3, 3, 3) := by decide +kernel
theorem p37_19 : pool (mcls 37) 19 = some (3, 3, 2) := by decide +kernel
theorem p38_47 : pool (mcls 38) 47 = some (1, 3, 4) := by decide +kernel
theorem p38_22 : pool (mcls 38) 22 = some (3, 3, 3) := by decide +kernel
theorem p38_89 : pool (mcls 38) 89 = some (4, 39, 2) := by decide +kernel
theorem p39_19 : pool (mcls 39) 19 = some (3, 3, 2) := by decide +kernel
theorem p40_3 : pool (mcls 40) 3 = some (7, 0, 0) := by decide +kernel
theorem p40_9 : pool (mcls 40) 9 = some (3, 4, 2) := by decide +kernel
theorem p40_15 : pool (mcls 40) 15 = some (3, 4, 3) := by decide +kernel
theorem p40_18 : pool (mcls 40) 18 = some (3, 4, 4) := by decide +kernel
theorem p41_21 : pool (mcls 41) 21 = some (1, 4, 0) := by decide +kernel
theorem p41_25 : pool (mcls 41) 25 = some (1, 4, 1) := by decide +kernel
theorem p41_18 : pool (mcls 41) 18 = some (3, 4, 4) := by decide +kernel
theorem p41_28 : pool (mcls 41) 28 = some (4, 293, 2) := by decide +kernel
theorem p42_21 : pool (mcls 42) 21 = some (1, 4, 0) := by decide +kernel
theorem p42_25 : pool (mcls 42) 25 = some (1, 4, 1) := by decide +kernel
theorem p42_9 : pool (mcls 42) 9 = some (3, 4, 2) := by decide +kernel
theorem p42_34 : pool (mcls 42) 34 = some (6, 0, 0) := by decide +kernel
theorem p42_15 : pool (mcls 42) 15 = some (3, 4, 3) := by decide +kernel
theorem p42_18 : pool (mcls 42) 18 = some (3, 4, 4) := by decide +kernel
theorem p43_21 : pool (mcls 43) 21 = some (1, 4, 0) := by decide +kernel
theorem p43_9 : pool (mcls 43) 9 = some (3, 4, 2) := by decide +kernel
theorem p43_15 : pool (mcls 43) 15 = some (3, 4, 3) := by decide +kernel
theorem p43_25 : pool (mcls 43) 25 = some (1, 4, 1) := by decide +kernel
theorem p43_40 : pool (mcls 43) 40 = some (4, 29, 2) := by decide +kernel
theorem p43_46 : pool (mcls 43) 46 = some (4, 45, 2) := by decide +kernel
theorem p43_50 : pool (mcls 43) 50 = some (4, 44, 3) := by decide +kernel
theorem p44_54 : pool (mcls 44) 54 = some (4, 11, 1) := by decide +kernel
theorem p44_58 : pool (mcls 44) 58 = some (4, 12, 1) := by decide +kernel
theorem p44_61 : pool (mcls 44) 61 = some (4, 291, 2) := by decide +kernel
theorem p44_66 : pool (mcls 44) 66 = some (4, 290, 2) := by decide +kernel
theorem p44_69 : pool (mcls 44) 69 = some (4, 46, 4) := by decide +kernel
theorem p44_73 : pool (mcls 44) 73 = some (4, 47, 4) := by decide +kernel
theorem p45_54 : pool (mcls 45) 54 = some (4, 11, 1) := by decide +kernel
theorem p45_58 : pool (mcls 45) 58 = some (4, 12, 1) := by decide +kernel
theorem p45_76 : pool (mcls 45) 76 = some (4, 28, 1) := by decide +kernel
theorem p45_73 : pool (mcls 45) 73 = some (4, 47, 4) := by decide +kernel
theorem p45_79 : pool (mcls 45) 79 = some (1, 2, 0) := by decide +kernel
theorem p45_69 : pool (mcls 45) 69 = some (4, 46, 4) := by decide +kernel
theorem p45_82 : pool (mcls 45) 82 = some (1, 2, 1) := by decide +kernel
theorem p46_18 : pool (mcls 46) 18 = some (3, 4, 4) := by decide +kernel
theorem p46_82 : pool (mcls 46) 82 = some (1, 2, 1) := by decide +kernel
theorem p47_18 : pool (mcls 47) 18 = some (3, 4, 4) := by decide +kernel
theorem p47_82 : pool (mcls 47) 82 = some (1, 2, 1) := by decide +kernel
theorem p48_3 : pool (mcls 48) 3 = some (7, 0, 0) := by decide +kernel
theorem p48_9 : pool (mcls 48) 9 = some (3, 5, 4) := by decide +kernel
theorem p48_15 : pool (mcls 48) 15 = some (3, 5, 5) := by decide +kernel
theorem p48_18 : pool (mcls 48) 18 = some (3, 5, 6) := by decide +kernel
theorem p48_21 : pool (mcls 48) 21 = some (3, 5, 7) := by decide +kernel
theorem p48_24 : pool (mcls 48) 24 = some (3, 5, 8) := by decide +kernel
theorem p48_27 : pool (mcls 48) 27 = some (3, 5, 9) := by decide +kernel
theorem p48_30 : pool (mcls 48) 30 = some (4, 293, 2) := by decide +kernel
theorem p49_36 : pool (mcls 49) 36 = some (2, 5, 0) := by decide +kernel
theorem p49_40 : pool (mcls 49) 40 = some (1, 5, 1) := by decide +kernel
theorem p49_44 : pool (mcls 49) 44 = some (1, 5, 2) := by decide +kernel
theorem p49_47 : pool (mcls 49) 47 = some (1, 5, 3) := by decide +kernel
theorem p49_18 : pool (mcls 49) 18 = some (3, 5, 6) := by decide +kernel
theorem p49_30 : pool (mcls 49) 30 = some (4, 293, 2) := by decide +kernel
theorem p50_36 : pool (mcls 50) 36 = some (2, 5, 0) := by decide +kernel
theorem p50_40 : pool (mcls 50) 40 = some (1, 5, 1) := by decide +kernel
theorem p50_44 : pool (mcls 50) 44 = some (1, 5, 2) := by decide +kernel
theorem p50_47 : pool (mcls 50) 47 = some (1, 5, 3) := by decide +kernel
theorem p50_9 : pool (mcls 50) 9 = some (3, 5, 4) := by decide +kernel
theorem p50_50 : pool (mcls 50) 50 = some (6, 0, 0) := by decide +kernel
theorem p50_15 : pool (mcls 50) 15 = some (3, 5, 5) := by decide +kernel
theorem p50_18 : pool (mcls 50) 18 = some (3, 5, 6) := by decide +kernel
theorem p50_21 : pool (mcls 50) 21 = some (3, 5, 7) := by decide +kernel
theorem p50_24 : pool (mcls 50) 24 = some (3, 5, 8) := by decide +kernel
theorem p50_27 : pool (mcls 50) 27 = some (3, 5, 9) := by decide +kernel
theorem p51_56 : pool (mcls 51) 56 = some (4, 49, 0) := by decide +kernel
theorem p51_59 : pool (mcls 51) 59 = some (4, 10, 0) := by decide +kernel
theorem p51_65 : pool (mcls 51) 65 = some (4, 24, 0) := by decide +kernel
theorem p51_40 : pool (mcls 51) 40 = some (1, 5, 1) := by decide +kernel
theorem p51_36 : pool (mcls 51) 36 = some (2, 5, 0) := by decide +kernel
theorem p52_68 : pool (mcls 52) 68 = some (4, 38, 0) := by decide +kernel
theorem p52_73 : pool (mcls 52) 73 = some (3, 3, 1) := by decide +kernel
theorem p52_76 : pool (mcls 52) 76 = some (4, 53, 3) := by decide +kernel
theorem p52_80 : pool (mcls 52) 80 = some (4, 55, 1) := by decide +kernel
theorem p52_47 : pool (mcls 52) 47 = some (1, 5, 3) := by decide +kernel
theorem p52_36 : pool (mcls 52) 36 = some (2, 5, 0) := by decide +kernel
theorem p52_84 : pool (mcls 52) 84 = some (4, 54, 2) := by decide +kernel
theorem p52_44 : pool (mcls 52) 44 = some (1, 5, 2) := by decide +kernel
theorem p52_21 : pool (mcls 52) 21 = some (3, 5, 7) := by decide +kernel
theorem p52_40 : pool (mcls 52) 40 = some (1, 5, 1) := by decide +kernel
theorem p52_88 : pool (mcls 52) 88 = some (4, 36, 3) := by decide +kernel
theorem p53_9 : pool (mcls 53) 9 = some (3, 5, 4) := by decide +kernel
theorem p53_92 : pool (mcls 53) 92 = some (4, 20, 2) := by decide +kernel
theorem p53_15 : pool (mcls 53) 15 = some (3, 5, 5) := by decide +kernel
theorem p53_18 : pool (mcls 53) 18 = some (3, 5, 6) := by decide +kernel
theorem p54_9 : pool (mcls 54) 9 = some (3, 5, 4) := by decide +kernel
theorem p54_96 : pool (mcls 54) 96 = some (3, 2, 2) := by decide +kernel
theorem p54_15 : pool (mcls 54) 15 = some (3, 5, 5) := by decide +kernel
theorem p54_18 : pool (mcls 54) 18 = some (3, 5, 6) := by decide +kernel
theorem p54_47 : pool (mcls 54) 47 = some (1, 5, 3) := by decide +kernel
theorem p54_24 : pool (mcls 54) 24 = some (3, 5, 8) := by decide +kernel
theorem p54_27 : pool (mcls 54) 27 = some (3, 5, 9) := by decide +kernel
theorem p55_59 : pool (mcls 55) 59 = some (4, 10, 0) := by decide +kernel
theorem p55_99 : pool (mcls 55) 99 = some (4, 56, 1) := by decide +kernel
theorem p55_103 : pool (mcls 55) 103 = some (3, 2, 4) := by decide +kernel
theorem p55_107 : pool (mcls 55) 107 = some (3, 2, 3) := by decide +kernel
theorem p56_18 : pool (mcls 56) 18 = some (3, 5, 6) := by decide +kernel
theorem p57_47 : pool (mcls 57) 47 = some (1, 5, 3) := by decide +kernel
theorem p58_59 : pool (mcls 58) 59 = some (4, 10, 0) := by decide +kernel
theorem p58_18 : pool (mcls 58) 18 = some (3, 5, 6) := by decide +kernel
theorem p59_99 : pool (mcls 59) 99 = some (4, 56, 1) := by decide +kernel
theorem p59_15 : pool (mcls 59) 15 = some (3, 5, 5) := by decide +kernel
theorem p60_59 : pool (mcls 60) 59 = some (4, 10, 0) := by decide +kernel
theorem p60_18 : pool (mcls 60) 18 = some (3, 5, 6) := by decide +kernel
theorem p60_9 : pool (mcls 60) 9 = some (3, 5, 4) := by decide +kernel
theorem p60_110 : csl (mcls 60) 110 = some (255) := by decide +kernel
theorem p60_114 : csl (mcls 60) 114 = some (-2147483648) := by decide +kernel
theorem p60_116 : csl (mcls 60) 116 = some (2147483647) := by decide +kernel
theorem p61_59 : pool (mcls 61) 59 = some (4, 10, 0) := by decide +kernel
theorem p61_18 : pool (mcls 61) 18 = some (3, 5, 6) := by decide +kernel
theorem p61_9 : pool (mcls 61) 9 = some (3, 5, 4) := by decide +kernel
theorem p61_27 : pool (mcls 61) 27 = some (3, 5, 9) := by decide +kernel
theorem p62_59 : pool (mcls 62) 59 = some (4, 10, 0) := by decide +kernel
theorem p62_99 : pool (mcls 62) 99 = some (4, 56, 1) := by decide +kernel
theorem p62_9 : pool (mcls 62) 9 = some (3, 5, 4) := by decide +kernel
theorem p62_118 : pool (mcls 62) 118 = some (4, 289, 1) := by decide +kernel
theorem p62_124 : csl (mcls 62) 124 = some (3037000499) := by decide +kernel
theorem p62_128 : csl (mcls 62) 128 = some (9223372036854775807) := by decide +kernel
theorem p62_130 : csl (mcls 62) 130 = some (-1) := by decide +kernel
theorem p63_59 : pool (mcls 63) 59 = some (4, 10, 0) := by decide +kernel
theorem p63_99 : pool (mcls 63) 99 = some (4, 56, 1) := by decide +kernel
theorem p63_9 : pool (mcls 63) 9 = some (3, 5, 4) := by decide +kernel
theorem p64_59 : pool (mcls 64) 59 = some (4, 10, 0) := by decide +kernel
theorem p64_99 : pool (mcls 64) 99 = some (4, 56, 1) := by decide +kernel
theorem p64_9 : pool (mcls 64) 9 = some (3, 5, 4) := by decide +kernel
theorem p65_99 : pool (mcls 65) 99 = some (4, 56, 1) := by decide +kernel
theorem p65_132 : pool (mcls 65) 132 = some (4, 22, 2) := by decide +kernel
theorem p65_9 : pool (mcls 65) 9 = some (3, 5, 4) := by decide +kernel
theorem p66_59 : pool (mcls 66) 59 = some (4, 10, 0) := by decide +kernel
theorem p66_99 : pool (mcls 66) 99 = some (4, 56, 1) := by decide +kernel
theorem p66_9 : pool (mcls 66) 9 = some (3, 5, 4) := by decide +kernel
theorem p67_3 : pool (mcls 67) 3 = some (7, 0, 0) := by decide +kernel
theorem p67_9 : pool (mcls 67) 9 = some (3, 6, 1) := by decide +kernel
theorem p68_15 : pool (mcls 68) 15 = some (1, 6, 0) := by decide +kernel
theorem p68_9 : pool (mcls 68) 9 = some (3, 6, 1) := by decide +kernel
theorem p68_19 : pool (mcls 68) 19 = some (6, 0, 0) := by decide +kernel
theorem p69_15 : pool (mcls 69) 15 = some (1, 6, 0) := by decide +kernel
theorem p69_9 : pool (mcls 69) 9 = some (3, 6, 1) := by decide +kernel
theorem p70_15 : pool (mcls 70) 15 = some (1, 6, 0) := by decide +kernel
theorem p70_25 : pool (mcls 70) 25 = some (4, 291, 2) := by decide +kernel
theorem p71_9 : pool (mcls 71) 9 = some (3, 6, 1) := by decide +kernel
theorem p71_15 : pool (mcls 71) 15 = some (1, 6, 0) := by decide +kernel
theorem p72_3 : pool (mcls 72) 3 = some (7, 0, 0) := by decide +kernel
theorem p72_9 : pool (mcls 72) 9 = some (3, 7, 1) := by decide +kernel
theorem p72_15 : pool (mcls 72) 15 = some (3, 7, 2) := by decide +kernel
theorem p72_18 : pool (mcls 72) 18 = some (3, 7, 3) := by decide +kernel
theorem p72_21 : pool (mcls 72) 21 = some (3, 7, 4) := by decide +kernel
theorem p73_24 : pool (mcls 73) 24 = some (1, 7, 0) := by decide +kernel
theorem p73_28 : pool (mcls 73) 28 = some (4, 10, 0) := by decide +kernel
theorem p73_34 : pool (mcls 73) 34 = some (4, 15, 1) := by decide +kernel
theorem p73_38 : pool (mcls 73) 38 = some (4, 25, 1) := by decide +kernel
theorem p73_9 : pool (mcls 73) 9 = some (3, 7, 1) := by decide +kernel
theorem p73_15 : pool (mcls 73) 15 = some (3, 7, 2) := by decide +kernel
theorem p73_18 : pool (mcls 73) 18 = some (3, 7, 3) := by decide +kernel
theorem p74_24 : pool (mcls 74) 24 = some (1, 7, 0) := by decide +kernel
theorem p74_9 : pool (mcls 74) 9 = some (3, 7, 1) := by decide +kernel
theorem p74_42 : pool (mcls 74) 42 = some (4, 27, 2) := by decide +kernel
theorem p74_46 : pool (mcls 74) 46 = some (4, 291, 2) := by decide +kernel
theorem p75_51 : pool (mcls 75) 51 = some (4, 73, 1) := by decide +kernel
theorem p75_24 : pool (mcls 75) 24 = some (1, 7, 0) := by decide +kernel
theorem p76_55 : pool (mcls 76) 55 = some (4, 78, 1) := by decide +kernel
theorem p76_24 : pool (mcls 76) 24 = some (1, 7, 0) := by decide +kernel
theorem p76_58 : pool (mcls 76) 58 = some (4, 80, 1) := by decide +kernel
theorem p77_61 : pool (mcls 77) 61 = some (4, 41, 0) := by decide +kernel
theorem p77_24 : pool (mcls 77) 24 = some (1, 7, 0) := by decide +kernel
theorem p77_18 : pool (mcls 77) 18 = some (3, 7, 3) := by decide +kernel
theorem p77_9 : pool (mcls 77) 9 = some (3, 7, 1) := by decide +kernel
theorem p77_66 : pool (mcls 77) 66 = some (4, 43, 3) := by decide +kernel
theorem p78_24 : pool (mcls 78) 24 = some (1, 7, 0) := by decide +kernel
theorem p78_18 : pool (mcls 78) 18 = some (3, 7, 3) := by decide +kernel
theorem p78_70 : pool (mcls 78) 70 = some (4, 79, 3) := by decide +kernel
theorem p79_9 : pool (mcls 79) 9 = some (3, 7, 1) := by decide +kernel
theorem p79_73 : pool (mcls 79) 73 = some (4, 28, 1) := by decide +kernel
theorem p79_18 : pool (mcls 79) 18 = some (3, 7, 3) := by decide +kernel
theorem p79_24 : pool (mcls 79) 24 = some (1, 7, 0) := by decide +kernel
theorem p79_15 : pool (mcls 79) 15 = some (3, 7, 2) := by decide +kernel
theorem p79_42 : pool (mcls 79) 42 = some (4, 27, 2) := by decide +kernel
theorem p80_24 : pool (mcls 80) 24 = some (1, 7, 0) := by decide +kernel
theorem p80_21 : pool (mcls 80) 21 = some (3, 7, 4) := by decide +kernel
theorem p80_76 : pool (mcls 80) 76 = some (4, 294, 4) := by decide +kernel
theorem p80_82 : pool (mcls 80) 82 = some (4, 83, 2) := by decide +kernel
theorem p80_86 : pool (mcls 80) 86 = some (4, 81, 3) := by decide +kernel
theorem p80_18 : pool (mcls 80) 18 = some (3, 7, 3) := by decide +kernel
theorem p80_90 : pool (mcls 80) 90 = some (4, 84, 2) := by decide +kernel
theorem p81_93 : pool (mcls 81) 93 = some (4, 82, 4) := by decide +kernel
theorem p81_90 : pool (mcls 81) 90 = some (4, 84, 2) := by decide +kernel
theorem p81_9 : pool (mcls 81) 9 = some (3, 7, 1) := by decide +kernel
theorem p81_73 : pool (mcls 81) 73 = some (4, 28, 1) := by decide +kernel
theorem p81_24 : pool (mcls 81) 24 = some (1, 7, 0) := by decide +kernel
theorem p81_82 : pool (mcls 81) 82 = some (4, 83, 2) := by decide +kernel
theorem p81_15 : pool (mcls 81) 15 = some (3, 7, 2) := by decide +kernel
theorem p81_42 : pool (mcls 81) 42 = some (4, 27, 2) := by decide +kernel
theorem p82_21 : pool (mcls 82) 21 = some (3, 7, 4) := by decide +kernel
theorem p82_82 : pool (mcls 82) 82 = some (4, 83, 2) := by decide +kernel
theorem p82_90 : pool (mcls 82) 90 = some (4, 84, 2) := by decide +kernel
theorem p82_9 : pool (mcls 82) 9 = some (3, 7, 1) := by decide +kernel
theorem p82_73 : pool (mcls 82) 73 = some (4, 28, 1) := by decide +kernel
theorem p82_93 : pool (mcls 82) 93 = some (4, 82, 4) := by decide +kernel
theorem p82_24 : pool (mcls 82) 24 = some (1, 7, 0) := by decide +kernel
theorem p82_15 : pool (mcls 82) 15 = some (3, 7, 2) := by decide +kernel
theorem p82_42 : pool (mcls 82) 42 = some (4, 27, 2) := by decide +kernel
theorem p82_46 : pool (mcls 82) 46 = some (4, 291, 2) := by decide +kernel
theorem p85_5 : pool (mcls 85) 5 = some (7, 0, 0) := by decide +kernel
theorem p85_11 : pool (mcls 85) 11 = some (3, 8, 3) := by decide +kernel
theorem p85_17 : pool (mcls 85) 17 = some (3, 8, 4) := by decide +kernel
theorem p85_20 : pool (mcls 85) 20 = some (3, 8, 5) := by decide +kernel
theorem p86_23 : pool (mcls 86) 23 = some (1, 8, 2) := by decide +kernel
theorem p86_27 : pool (mcls 86) 27 = some (4, 10, 0) := by decide +kernel
theorem p86_33 : pool (mcls 86) 33 = some (4, 14, 1) := by decide +kernel
theorem p86_37 : pool (mcls 86) 37 = some (4, 16, 1) := by decide +kernel
theorem p86_41 : pool (mcls 86) 41 = some (4, 17, 1) := by decide +kernel
theorem p86_44 : pool (mcls 86) 44 = some (4, 87, 4) := by decide +kernel
theorem p87_48 : pool (mcls 87) 48 = some (4, 56, 1) := by decide +kernel
theorem p87_53 : pool (mcls 87) 53 = some (3, 5, 6) := by decide +kernel
theorem p87_56 : pool (mcls 87) 56 = some (4, 89, 2) := by decide +kernel
theorem p87_60 : pool (mcls 87) 60 = some (4, 90, 4) := by decide +kernel
theorem p87_64 : pool (mcls 87) 64 = some (4, 88, 2) := by decide +kernel
theorem p88_23 : pool (mcls 88) 23 = some (1, 8, 2) := by decide +kernel
theorem p88_11 : pool (mcls 88) 11 = some (3, 8, 3) := by decide +kernel
theorem p88_17 : pool (mcls 88) 17 = some (3, 8, 4) := by decide +kernel
theorem p90_68 : pool (mcls 90) 68 = some (4, 20, 2) := by decide +kernel
theorem p90_71 : pool (mcls 90) 71 = some (3, 5, 4) := by decide +kernel
theorem p90_74 : csl (mcls 90) 74 = some (255) := by decide +kernel
theorem p90_76 : cst (mcls 90) 76 = some (-2147483648) := by decide +kernel
theorem p91_77 : pool (mcls 91) 77 = some (4, 291, 2) := by decide +kernel
theorem p91_82 : pool (mcls 91) 82 = some (4, 290, 2) := by decide +kernel
theorem p91_56 : pool (mcls 91) 56 = some (4, 89, 2) := by decide +kernel
theorem p91_23 : pool (mcls 91) 23 = some (1, 8, 2) := by decide +kernel
theorem p91_11 : pool (mcls 91) 11 = some (3, 8, 3) := by decide +kernel
theorem p91_85 : pool (mcls 91) 85 = some (4, 92, 2) := by decide +kernel
theorem p91_88 : pool (mcls 91) 88 = some (4, 93, 3) := by decide +kernel
theorem p92_23 : pool (mcls 92) 23 = some (1, 8, 2) := by decide +kernel
theorem p92_11 : pool (mcls 92) 11 = some (3, 8, 3) := by decide +kernel
theorem p93_92 : pool (mcls 93) 92 = some (1, 8, 0) := by decide +kernel
theorem p93_95 : pool (mcls 93) 95 = some (1, 8, 1) := by decide +kernel
theorem p93_17 : pool (mcls 93) 17 = some (3, 8, 4) := by decide +kernel
theorem p93_76 : cst (mcls 93) 76 = some (-2147483648) := by decide +kernel
theorem p93_98 : pool (mcls 93) 98 = some (4, 94, 2) := by decide +kernel
theorem p94_102 : pool (mcls 94) 102 = some (4, 288, 1) := by decide +kernel
theorem p95_105 : pool (mcls 95) 105 = some (1, 5, 3) := by decide +kernel
theorem p95_20 : pool (mcls 95) 20 = some (3, 8, 5) := by decide +kernel
theorem p95_108 : pool (mcls 95) 108 = some (4, 86, 2) := by decide +kernel
theorem p95_112 : pool (mcls 95) 112 = some (4, 96, 0) := by decide +kernel
theorem p95_11 : pool (mcls 95) 11 = some (3, 8, 3) := by decide +kernel
theorem p95_115 : pool (mcls 95) 115 = some (4, 97, 3) := by decide +kernel
theorem p95_119 : pool (mcls 95) 119 = some (4, 98, 3) := by decide +kernel
theorem p96_23 : pool (mcls 96) 23 = some (1, 8, 2) := by decide +kernel
theorem p96_11 : pool (mcls 96) 11 = some (3, 8, 3) := by decide +kernel
theorem p96_20 : pool (mcls 96) 20 = some (3, 8, 5) := by decide +kernel
theorem p96_85 : pool (mcls 96) 85 = some (4, 92, 2) := by decide +kernel
theorem p96_88 : pool (mcls 96) 88 = some (4, 93, 3) := by decide +kernel
theorem p96_95 : pool (mcls 96) 95 = some (1, 8, 1) := by decide +kernel
theorem p96_92 : pool (mcls 96) 92 = some (1, 8, 0) := by decide +kernel
theorem p97_105 : pool (mcls 97) 105 = some (1, 5, 3) := by decide +kernel
theorem p97_20 : pool (mcls 97) 20 = some (3, 8, 5) := by decide +kernel
theorem p97_92 : pool (mcls 97) 92 = some (1, 8, 0) := by decide +kernel
theorem p97_123 : pool (mcls 97) 123 = some (4, 60, 3) := by decide +kernel
theorem p97_127 : pool (mcls 97) 127 = some (4, 61, 3) := by decide +kernel
theorem p98_105 : pool (mcls 98) 105 = some (1, 5, 3) := by decide +kernel
theorem p98_20 : pool (mcls 98) 20 = some (3, 8, 5) := by decide +kernel
theorem p99_3 : pool (mcls 99) 3 = some (7, 0, 0) := by decide +kernel
theorem p99_9 : pool (mcls 99) 9 = some (3, 9, 3) := by decide +kernel
theorem p100_15 : pool (mcls 100) 15 = some (1, 9, 0) := by decide +kernel
theorem p100_9 : pool (mcls 100) 9 = some (3, 9, 3) := by decide +kernel
theorem p101_15 : pool (mcls 101) 15 = some (1, 9, 0) := by decide +kernel
theorem p101_9 : pool (mcls 101) 9 = some (3, 9, 3) := by decide +kernel
theorem p101_19 : pool (mcls 101) 19 = some (4, 102, 2) := by decide +kernel
theorem p101_23 : pool (mcls 101) 23 = some (4, 103, 2) := by decide +kernel
theorem p101_26 : pool (mcls 101) 26 = some (1, 9, 1) := by decide +kernel
theorem p101_29 : pool (mcls 101) 29 = some (1, 9, 2) := by decide +kernel
theorem p103_9 : pool (mcls 103) 9 = some (3, 9, 3) := by decide +kernel
theorem p103_32 : pool (mcls 103) 32 = some (4, 104, 1) := by decide +kernel
theorem p105_36 : pool (mcls 105) 36 = some (4, 10, 0) := by decide +kernel
theorem p105_15 : pool (mcls 105) 15 = some (1, 9, 0) := by decide +kernel
theorem p105_42 : pool (mcls 105) 42 = some (4, 12, 1) := by decide +kernel
theorem p105_9 : pool (mcls 105) 9 = some (3, 9, 3) := by decide +kernel
theorem p105_45 : pool (mcls 105) 45 = some (3, 2, 4) := by decide +kernel
theorem p105_49 : pool (mcls 105) 49 = some (3, 2, 2) := by decide +kernel
theorem p105_32 : pool (mcls 105) 32 = some (4, 104, 1) := by decide +kernel
theorem p105_52 : pool (mcls 105) 52 = some (4, 19, 1) := by decide +kernel
theorem p106_3 : pool (mcls 106) 3 = some (7, 0, 0) := by decide +kernel
theorem p106_9 : pool (mcls 106) 9 = some (3, 10, 0) := by decide +kernel
theorem p106_15 : pool (mcls 106) 15 = some (5, 4, 5) := by decide +kernel
theorem p106_17 : pool (mcls 106) 17 = some (4, 40, 0) := by decide +kernel
theorem p106_18 : pool (mcls 106) 18 = some (3, 10, 1) := by decide +kernel
theorem p106_22 : pool (mcls 106) 22 = some (5, 5, 10) := by decide +kernel
theorem p106_24 : pool (mcls 106) 24 = some (4, 48, 0) := by decide +kernel
theorem p106_25 : pool (mcls 106) 25 = some (3, 10, 2) := by decide +kernel
theorem p107_9 : pool (mcls 107) 9 = some (3, 10, 0) := by decide +kernel
theorem p107_29 : pool (mcls 107) 29 = some (4, 9, 1) := by decide +kernel
theorem p107_18 : pool (mcls 107) 18 = some (3, 10, 1) := by decide +kernel
theorem p107_35 : pool (mcls 107) 35 = some (4, 42, 1) := by decide +kernel
theorem p107_25 : pool (mcls 107) 25 = some (3, 10, 2) := by decide +kernel
theorem p107_38 : pool (mcls 107) 38 = some (4, 50, 1) := by decide +kernel
theorem p108_9 : pool (mcls 108) 9 = some (3, 10, 0) := by decide +kernel
theorem p108_41 : pool (mcls 108) 41 = some (4, 8, 2) := by decide +kernel
theorem p108_18 : pool (mcls 108) 18 = some (3, 10, 1) := by decide +kernel
theorem p108_45 : pool (mcls 108) 45 = some (4, 41, 0) := by decide +kernel
theorem p108_25 : pool (mcls 108) 25 = some (3, 10, 2) := by decide +kernel
theorem p108_48 : pool (mcls 108) 48 = some (4, 49, 0) := by decide +kernel
theorem p109_9 : pool (mcls 109) 9 = some (3, 10, 0) := by decide +kernel
theorem p109_49 : pool (mcls 109) 49 = some (3, 2, 5) := by decide +kernel
theorem p109_18 : pool (mcls 109) 18 = some (3, 10, 1) := by decide +kernel
theorem p109_53 : pool (mcls 109) 53 = some (3, 4, 4) := by decide +kernel
theorem p110_9 : pool (mcls 110) 9 = some (3, 10, 0) := by decide +kernel
theorem p110_57 : pool (mcls 110) 57 = some (4, 10, 0) := by decide +kernel
theorem p110_61 : pool (mcls 110) 61 = some (4, 109, 1) := by decide +kernel
theorem p111_61 : pool (mcls 111) 61 = some (4, 109, 1) := by decide +kernel
theorem p111_65 : pool (mcls 111) 65 = some (4, 113, 1) := by decide +kernel
theorem p112_61 : pool (mcls 112) 61 = some (4, 109, 1) := by decide +kernel
theorem p112_25 : pool (mcls 112) 25 = some (3, 10, 2) := by decide +kernel
theorem p112_68 : pool (mcls 112) 68 = some (3, 5, 6) := by decide +kernel
theorem p112_9 : pool (mcls 112) 9 = some (3, 10, 0) := by decide +kernel
theorem p112_71 : pool (mcls 112) 71 = some (4, 16, 1) := by decide +kernel
theorem p112_75 : pool (mcls 112) 75 = some (4, 17, 1) := by decide +kernel
theorem p112_65 : pool (mcls 112) 65 = some (4, 113, 1) := by decide +kernel
theorem p113_9 : pool (mcls 113) 9 = some (3, 10, 0) := by decide +kernel
theorem p113_71 : pool (mcls 113) 71 = some (4, 16, 1) := by decide +kernel
theorem p113_75 : pool (mcls 113) 75 = some (4, 17, 1) := by decide +kernel
theorem p113_25 : pool (mcls 113) 25 = some (3, 10, 2) := by decide +kernel
theorem p113_78 : pool (mcls 113) 78 = some (4, 56, 1) := by decide +kernel
theorem p113_81 : pool (mcls 113) 81 = some (3, 5, 4) := by decide +kernel
theorem p113_84 : pool (mcls 113) 84 = some (4, 20, 2) := by decide +kernel
theorem p114_9 : pool (mcls 114) 9 = some (3, 10, 0) := by decide +kernel
theorem p114_57 : pool (mcls 114) 57 = some (4, 10, 0) := by decide +kernel
theorem p114_88 : pool (mcls 114) 88 = some (4, 14, 1) := by decide +kernel
theorem p114_91 : pool (mcls 114) 91 = some (4, 111, 1) := by decide +kernel
theorem p115_9 : pool (mcls 115) 9 = some (3, 10, 0) := by decide +kernel
theorem p115_57 : pool (mcls 115) 57 = some (4, 10, 0) := by decide +kernel
theorem p115_88 : pool (mcls 115) 88 = some (4, 14, 1) := by decide +kernel
theorem p115_94 : pool (mcls 115) 94 = some (4, 112, 1) := by decide +kernel
theorem p116_9 : pool (mcls 116) 9 = some (3, 10, 0) := by decide +kernel
theorem p116_57 : pool (mcls 116) 57 = some (4, 10, 0) := by decide +kernel
theorem p116_88 : pool (mcls 116) 88 = some (4, 14, 1) := by decide +kernel
theorem p116_25 : pool (mcls 116) 25 = some (3, 10, 2) := by decide +kernel
theorem p116_68 : pool (mcls 116) 68 = some (3, 5, 6) := by decide +kernel
theorem p116_71 : pool (mcls 116) 71 = some (4, 16, 1) := by decide +kernel
theorem p116_75 : pool (mcls 116) 75 = some (4, 17, 1) := by decide +kernel
theorem p117_3 : pool (mcls 117) 3 = some (7, 0, 0) := by decide +kernel
theorem p117_9 : pool (mcls 117) 9 = some (5, 10, 3) := by decide +kernel
theorem p117_11 : pool (mcls 117) 11 = some (5, 2, 6) := by decide +kernel
theorem p117_13 : pool (mcls 117) 13 = some (4, 7, 0) := by decide +kernel
theorem p117_14 : pool (mcls 117) 14 = some (4, 106, 1) := by decide +kernel
theorem p117_17 : pool (mcls 117) 17 = some (3, 11, 0) := by decide +kernel
theorem p117_21 : pool (mcls 117) 21 = some (3, 10, 0) := by decide +kernel
theorem p117_25 : pool (mcls 117) 25 = some (3, 11, 1) := by decide +kernel
theorem p117_28 : pool (mcls 117) 28 = some (5, 0, 3) := by decide +kernel
theorem p117_30 : pool (mcls 117) 30 = some (4, 0, 0) := by decide +kernel
theorem p117_31 : pool (mcls 117) 31 = some (3, 11, 2) := by decide +kernel
theorem p117_35 : pool (mcls 117) 35 = some (5, 6, 2) := by decide +kernel
theorem p117_37 : pool (mcls 117) 37 = some (4, 67, 0) := by decide +kernel
theorem p117_38 : pool (mcls 117) 38 = some (3, 11, 3) := by decide +kernel
theorem p117_42 : pool (mcls 117) 42 = some (5, 9, 4) := by decide +kernel
theorem p117_44 : pool (mcls 117) 44 = some (4, 99, 0) := by decide +kernel
theorem p117_45 : pool (mcls 117) 45 = some (3, 11, 4) := by decide +kernel
theorem p117_49 : pool (mcls 117) 49 = some (5, 7, 5) := by decide +kernel
theorem p117_51 : pool (mcls 117) 51 = some (4, 72, 0) := by decide +kernel
theorem p117_52 : pool (mcls 117) 52 = some (3, 11, 5) := by decide +kernel
theorem p117_56 : pool (mcls 117) 56 = some (5, 3, 5) := by decide +kernel
theorem p117_58 : pool (mcls 117) 58 = some (4, 33, 0) := by decide +kernel
theorem p117_59 : pool (mcls 117) 59 = some (3, 11, 6) := by decide +kernel
theorem p117_63 : pool (mcls 117) 63 = some (5, 8, 6) := by decide +kernel
theorem p117_65 : pool (mcls 117) 65 = some (4, 85, 0) := by decide +kernel
theorem p117_66 : pool (mcls 117) 66 = some (3, 11, 7) := by decide +kernel
theorem p117_70 : pool (mcls 117) 70 = some (5, 1, 6) := by decide +kernel
theorem p117_72 : pool (mcls 117) 72 = some (4, 3, 0) := by decide +kernel
theorem p117_73 : pool (mcls 117) 73 = some (3, 11, 8) := by decide +kernel
theorem p117_77 : pool (mcls 117) 77 = some (1, 11, 10) := by decide +kernel
theorem p118_81 : pool (mcls 118) 81 = some (4, 159, 1) := by decide +kernel
theorem p118_31 : pool (mcls 118) 31 = some (3, 11, 2) := by decide +kernel
theorem p118_17 : pool (mcls 118) 17 = some (3, 11, 0) := by decide +kernel
theorem p118_85 : pool (mcls 118) 85 = some (4, 1, 1) := by decide +kernel
theorem p118_89 : pool (mcls 118) 89 = some (4, 108, 2) := by decide +kernel
theorem p119_17 : pool (mcls 119) 17 = some (3, 11, 0) := by decide +kernel
theorem p119_21 : pool (mcls 119) 21 = some (3, 10, 0) := by decide +kernel
theorem p119_93 : pool (mcls 119) 93 = some (4, 13, 1) := by decide +kernel
theorem p119_31 : pool (mcls 119) 31 = some (3, 11, 2) := by decide +kernel
theorem p119_85 : pool (mcls 119) 85 = some (4, 1, 1) := by decide +kernel
theorem p119_96 : pool (mcls 119) 96 = some (3, 2, 2) := by decide +kernel
theorem p119_100 : pool (mcls 119) 100 = some (4, 19, 1) := by decide +kernel
theorem p119_104 : pool (mcls 119) 104 = some (3, 10, 2) := by decide +kernel
theorem p119_108 : pool (mcls 119) 108 = some (4, 49, 0) := by decide +kernel
theorem p120_17 : pool (mcls 120) 17 = some (3, 11, 0) := by decide +kernel
theorem p120_21 : pool (mcls 120) 21 = some (3, 10, 0) := by decide +kernel
theorem p120_93 : pool (mcls 120) 93 = some (4, 13, 1) := by decide +kernel
theorem p120_113 : pool (mcls 120) 113 = some (3, 2, 4) := by decide +kernel
theorem p120_31 : pool (mcls 120) 31 = some (3, 11, 2) := by decide +kernel
theorem p120_85 : pool (mcls 120) 85 = some (4, 1, 1) := by decide +kernel
theorem p120_104 : pool (mcls 120) 104 = some (3, 10, 2) := by decide +kernel
theorem p120_108 : pool (mcls 120) 108 = some (4, 49, 0) := by decide +kernel
theorem p121_17 : pool (mcls 121) 17 = some (3, 11, 0) := by decide +kernel
theorem p121_21 : pool (mcls 121) 21 = some (3, 10, 0) := by decide +kernel
theorem p121_93 : pool (mcls 121) 93 = some (4, 13, 1) := by decide +kernel
theorem p121_31 : pool (mcls 121) 31 = some (3, 11, 2) := by decide +kernel
theorem p121_85 : pool (mcls 121) 85 = some (4, 1, 1) := by decide +kernel
theorem p121_117 : pool (mcls 121) 117 = some (3, 2, 3) := by decide +kernel
theorem p122_31 : pool (mcls 122) 31 = some (3, 11, 2) := by decide +kernel
theorem p122_17 : pool (mcls 122) 17 = some (3, 11, 0) := by decide +kernel
theorem p122_85 : pool (mcls 122) 85 = some (4, 1, 1) := by decide +kernel
theorem p122_52 : pool (mcls 122) 52 = some (3, 11, 5) := by decide +kernel
theorem p122_21 : pool (mcls 122) 21 = some (3, 10, 0) := by decide +kernel
theorem p122_120 : pool (mcls 122) 120 = some (4, 73, 1) := by decide +kernel
theorem p122_123 : pool (mcls 122) 123 = some (4, 10, 0) := by decide +kernel
theorem p122_117 : pool (mcls 122) 117 = some (3, 2, 3) := by decide +kernel
theorem p122_127 : pool (mcls 122) 127 = some (4, 161, 2) := by decide +kernel
theorem p123_31 : pool (mcls 123) 31 = some (3, 11, 2) := by decide +kernel
theorem p123_17 : pool (mcls 123) 17 = some (3, 11, 0) := by decide +kernel
theorem p123_85 : pool (mcls 123) 85 = some (4, 1, 1) := by decide +kernel
theorem p123_21 : pool (mcls 123) 21 = some (3, 10, 0) := by decide +kernel
theorem p123_123 : pool (mcls 123) 123 = some (4, 10, 0) := by decide +kernel
theorem p123_96 : pool (mcls 123) 96 = some (3, 2, 2) := by decide +kernel
theorem p123_131 : pool (mcls 123) 131 = some (4, 11, 1) := by decide +kernel
theorem p123_134 : pool (mcls 123) 134 = some (4, 12, 1) := by decide +kernel
theorem p123_100 : pool (mcls 123) 100 = some (4, 19, 1) := by decide +kernel
theorem p123_104 : pool (mcls 123) 104 = some (3, 10, 2) := by decide +kernel
theorem p123_108 : pool (mcls 123) 108 = some (4, 49, 0) := by decide +kernel
theorem p124_31 : pool (mcls 124) 31 = some (3, 11, 2) := by decide +kernel
theorem p124_17 : pool (mcls 124) 17 = some (3, 11, 0) := by decide +kernel
theorem p124_85 : pool (mcls 124) 85 = some (4, 1, 1) := by decide +kernel
theorem p124_21 : pool (mcls 124) 21 = some (3, 10, 0) := by decide +kernel
theorem p124_123 : pool (mcls 124) 123 = some (4, 10, 0) := by decide +kernel
theorem p124_137 : pool (mcls 124) 137 = some (4, 160, 1) := by decide +kernel
theorem p124_96 : pool (mcls 124) 96 = some (3, 2, 2) := by decide +kernel
theorem p124_100 : pool (mcls 124) 100 = some (4, 19, 1) := by decide +kernel
theorem p124_104 : pool (mcls 124) 104 = some (3, 10, 2) := by decide +kernel
theorem p124_108 : pool (mcls 124) 108 = some (4, 49, 0) := by decide +kernel
theorem p125_140 : pool (mcls 125) 140 = some (1, 11, 9) := by decide +kernel
theorem p126_52 : pool (mcls 126) 52 = some (3, 11, 5) := by decide +kernel
theorem p126_17 : pool (mcls 126) 17 = some (3, 11, 0) := by decide +kernel
theorem p126_21 : pool (mcls 126) 21 = some (3, 10, 0) := by decide +kernel
theorem p126_143 : pool (mcls 126) 143 = some (4, 75, 2) := by decide +kernel
theorem p126_31 : pool (mcls 126) 31 = some (3, 11, 2) := by decide +kernel
theorem p126_85 : pool (mcls 126) 85 = some (4, 1, 1) := by decide +kernel
theorem p126_147 : pool (mcls 126) 147 = some (4, 76, 2) := by decide +kernel
theorem p126_151 : pool (mcls 126) 151 = some (3, 10, 1) := by decide +kernel
theorem p126_155 : pool (mcls 126) 155 = some (4, 77, 2) := by decide +kernel
theorem p126_104 : pool (mcls 126) 104 = some (3, 10, 2) := by decide +kernel
theorem p126_108 : pool (mcls 126) 108 = some (4, 49, 0) := by decide +kernel
theorem p126_38 : pool (mcls 126) 38 = some (3, 11, 3) := by decide +kernel
theorem p126_159 : pool (mcls 126) 159 = some (1, 7, 0) := by decide +kernel
theorem p126_162 : pool (mcls 126) 162 = some (1, 4, 1) := by decide +kernel
theorem p126_167 : pool (mcls 126) 167 = some (4, 69, 3) := by decide +kernel
theorem p127_17 : pool (mcls 127) 17 = some (3, 11, 0) := by decide +kernel
theorem p127_21 : pool (mcls 127) 21 = some (3, 10, 0) := by decide +kernel
theorem p127_171 : pool (mcls 127) 171 = some (4, 14, 1) := by decide +kernel
theorem p127_174 : pool (mcls 127) 174 = some (3, 2, 5) := by decide +kernel
theorem p127_31 : pool (mcls 127) 31 = some (3, 11, 2) := by decide +kernel
theorem p127_85 : pool (mcls 127) 85 = some (4, 1, 1) := by decide +kernel
theorem p127_104 : pool (mcls 127) 104 = some (3, 10, 2) := by decide +kernel
theorem p127_108 : pool (mcls 127) 108 = some (4, 49, 0) := by decide +kernel
theorem p128_17 : pool (mcls 128) 17 = some (3, 11, 0) := by decide +kernel
theorem p128_104 : pool (mcls 128) 104 = some (3, 10, 2) := by decide +kernel
theorem p128_21 : pool (mcls 128) 21 = some (3, 10, 0) := by decide +kernel
theorem p128_177 : pool (mcls 128) 177 = some (4, 51, 1) := by decide +kernel
theorem p128_180 : pool (mcls 128) 180 = some (1, 5, 1) := by decide +kernel
theorem p129_17 : pool (mcls 129) 17 = some (3, 11, 0) := by decide +kernel
theorem p129_104 : pool (mcls 129) 104 = some (3, 10, 2) := by decide +kernel
theorem p129_183 : pool (mcls 129) 183 = some (2, 5, 0) := by decide +kernel
theorem p129_59 : pool (mcls 129) 59 = some (3, 11, 6) := by decide +kernel
theorem p129_187 : pool (mcls 129) 187 = some (4, 34, 1) := by decide +kernel
theorem p129_190 : pool (mcls 129) 190 = some (4, 35, 1) := by decide +kernel
theorem p129_193 : pool (mcls 129) 193 = some (1, 5, 3) := by decide +kernel
theorem p129_21 : pool (mcls 129) 21 = some (3, 10, 0) := by decide +kernel
theorem p129_196 : pool (mcls 129) 196 = some (4, 52, 2) := by decide +kernel
theorem p129_38 : pool (mcls 129) 38 = some (3, 11, 3) := by decide +kernel
theorem p129_200 : pool (mcls 129) 200 = some (3, 5, 8) := by decide +kernel
theorem p129_167 : pool (mcls 129) 167 = some (4, 69, 3) := by decide +kernel
theorem p129_203 : pool (mcls 129) 203 = some (4, 114, 0) := by decide +kernel
theorem p130_17 : pool (mcls 130) 17 = some (3, 11, 0) := by decide +kernel
theorem p130_104 : pool (mcls 130) 104 = some (3, 10, 2) := by decide +kernel
theorem p130_206 : pool (mcls 130) 206 = some (4, 57, 1) := by decide +kernel
theorem p130_21 : pool (mcls 130) 21 = some (3, 10, 0) := by decide +kernel
theorem p130_209 : pool (mcls 130) 209 = some (4, 60, 3) := by decide +kernel
theorem p130_31 : pool (mcls 130) 31 = some (3, 11, 2) := by decide +kernel
theorem p130_85 : pool (mcls 130) 85 = some (4, 1, 1) := by decide +kernel
theorem p130_213 : pool (mcls 130) 213 = some (4, 61, 3) := by decide +kernel
theorem p130_38 : pool (mcls 130) 38 = some (3, 11, 3) := by decide +kernel
theorem p130_167 : pool (mcls 130) 167 = some (4, 69, 3) := by decide +kernel
theorem p131_25 : pool (mcls 131) 25 = some (3, 11, 1) := by decide +kernel
theorem p131_104 : pool (mcls 131) 104 = some (3, 10, 2) := by decide +kernel
theorem p131_17 : pool (mcls 131) 17 = some (3, 11, 0) := by decide +kernel
theorem p131_217 : pool (mcls 131) 217 = some (4, 50, 1) := by decide +kernel
theorem p131_66 : pool (mcls 131) 66 = some (3, 11, 7) := by decide +kernel
theorem p131_21 : pool (mcls 131) 21 = some (3, 10, 0) := by decide +kernel
theorem p131_221 : pool (mcls 131) 221 = some (4, 95, 2) := by decide +kernel
theorem p131_31 : pool (mcls 131) 31 = some (3, 11, 2) := by decide +kernel
theorem p131_85 : pool (mcls 131) 85 = some (4, 1, 1) := by decide +kernel
theorem p131_38 : pool (mcls 131) 38 = some (3, 11, 3) := by decide +kernel
theorem p131_193 : pool (mcls 131) 193 = some (1, 5, 3) := by decide +kernel
theorem p131_167 : pool (mcls 131) 167 = some (4, 69, 3) := by decide +kernel
theorem p132_45 : pool (mcls 132) 45 = some (3, 11, 4) := by decide +kernel
theorem p132_225 : pool (mcls 132) 225 = some (1, 9, 0) := by decide +kernel
theorem p132_228 : pool (mcls 132) 228 = some (4, 100, 1) := by decide +kernel
theorem p133_45 : pool (mcls 133) 45 = some (3, 11, 4) := by decide +kernel
theorem p133_225 : pool (mcls 133) 225 = some (1, 9, 0) := by decide +kernel
theorem p134_45 : pool (mcls 134) 45 = some (3, 11, 4) := by decide +kernel
theorem p134_232 : pool (mcls 134) 232 = some (4, 101, 0) := by decide +kernel
theorem p134_77 : pool (mcls 134) 77 = some (1, 11, 10) := by decide +kernel
theorem p134_31 : pool (mcls 134) 31 = some (3, 11, 2) := by decide +kernel
theorem p134_17 : pool (mcls 134) 17 = some (3, 11, 0) := by decide +kernel
theorem p134_85 : pool (mcls 134) 85 = some (4, 1, 1) := by decide +kernel
theorem p134_235 : pool (mcls 134) 235 = some (1, 9, 1) := by decide +kernel
theorem p134_238 : pool (mcls 134) 238 = some (1, 9, 2) := by decide +kernel
theorem p134_89 : pool (mcls 134) 89 = some (4, 108, 2) := by decide +kernel
theorem p134_21 : pool (mcls 134) 21 = some (3, 10, 0) := by decide +kernel
theorem p134_241 : pool (mcls 134) 241 = some (4, 105, 1) := by decide +kernel
theorem p134_225 : pool (mcls 134) 225 = some (1, 9, 0) := by decide +kernel
theorem p134_123 : pool (mcls 134) 123 = some (4, 10, 0) := by decide +kernel
theorem p135_77 : pool (mcls 135) 77 = some (1, 11, 10) := by decide +kernel
theorem p136_17 : pool (mcls 136) 17 = some (3, 11, 0) := by decide +kernel
theorem p136_21 : pool (mcls 136) 21 = some (3, 10, 0) := by decide +kernel
theorem p136_93 : pool (mcls 136) 93 = some (4, 13, 1) := by decide +kernel
theorem p136_104 : pool (mcls 136) 104 = some (3, 10, 2) := by decide +kernel
theorem p136_243 : pool (mcls 136) 243 = some (4, 56, 1) := by decide +kernel
theorem p136_96 : pool (mcls 136) 96 = some (3, 2, 2) := by decide +kernel
theorem p136_117 : pool (mcls 136) 117 = some (3, 2, 3) := by decide +kernel
theorem p136_113 : pool (mcls 136) 113 = some (3, 2, 4) := by decide +kernel
theorem p136_246 : pool (mcls 136) 246 = some (3, 5, 5) := by decide +kernel
theorem p136_249 : pool (mcls 136) 249 = some (3, 5, 6) := by decide +kernel
theorem p136_252 : pool (mcls 136) 252 = some (4, 59, 1) := by decide +kernel
theorem p136_255 : pool (mcls 136) 255 = some (3, 5, 7) := by decide +kernel
theorem p137_17 : pool (mcls 137) 17 = some (3, 11, 0) := by decide +kernel
theorem p137_21 : pool (mcls 137) 21 = some (3, 10, 0) := by decide +kernel
theorem p137_93 : pool (mcls 137) 93 = some (4, 13, 1) := by decide +kernel
theorem p137_104 : pool (mcls 137) 104 = some (3, 10, 2) := by decide +kernel
theorem p137_243 : pool (mcls 137) 243 = some (4, 56, 1) := by decide +kernel
theorem p137_258 : cst (mcls 137) 258 = some (-100000000) := by decide +kernel
theorem p137_259 : pool (mcls 137) 259 = some (3, 5, 4) := by decide +kernel
theorem p138_17 : pool (mcls 138) 17 = some (3, 11, 0) := by decide +kernel
theorem p138_21 : pool (mcls 138) 21 = some (3, 10, 0) := by decide +kernel
theorem p138_171 : pool (mcls 138) 171 = some (4, 14, 1) := by decide +kernel
theorem p138_262 : pool (mcls 138) 262 = some (4, 21, 1) := by decide +kernel
theorem p138_265 : pool (mcls 138) 265 = some (4, 18, 1) := by decide +kernel
theorem p138_151 : pool (mcls 138) 151 = some (3, 10, 1) := by decide +kernel
theorem p138_268 : pool (mcls 138) 268 = some (3, 4, 4) := by decide +kernel
theorem p138_174 : pool (mcls 138) 174 = some (3, 2, 5) := by decide +kernel
theorem p138_271 : pool (mcls 138) 271 = some (4, 111, 1) := by decide +kernel
theorem p138_274 : pool (mcls 138) 274 = some (4, 112, 1) := by decide +kernel
theorem p138_117 : pool (mcls 138) 117 = some (3, 2, 3) := by decide +kernel
theorem p138_277 : pool (mcls 138) 277 = some (4, 16, 1) := by decide +kernel
theorem p138_280 : pool (mcls 138) 280 = some (4, 17, 1) := by decide +kernel
theorem p138_283 : pool (mcls 138) 283 = some (4, 291, 2) := by decide +kernel
theorem p139_17 : pool (mcls 139) 17 = some (3, 11, 0) := by decide +kernel
theorem p139_21 : pool (mcls 139) 21 = some (3, 10, 0) := by decide +kernel
theorem p139_288 : pool (mcls 139) 288 = some (4, 15, 1) := by decide +kernel
theorem p139_291 : pool (mcls 139) 291 = some (4, 25, 1) := by decide +kernel
theorem p140_52 : pool (mcls 140) 52 = some (3, 11, 5) := by decide +kernel
theorem p140_17 : pool (mcls 140) 17 = some (3, 11, 0) := by decide +kernel
theorem p140_21 : pool (mcls 140) 21 = some (3, 10, 0) := by decide +kernel
theorem p140_120 : pool (mcls 140) 120 = some (4, 73, 1) := by decide +kernel
theorem p140_159 : pool (mcls 140) 159 = some (1, 7, 0) := by decide +kernel
theorem p140_294 : pool (mcls 140) 294 = some (3, 7, 1) := by decide +kernel
theorem p141_17 : pool (mcls 141) 17 = some (3, 11, 0) := by decide +kernel
theorem p141_21 : pool (mcls 141) 21 = some (3, 10, 0) := by decide +kernel
theorem p141_288 : pool (mcls 141) 288 = some (4, 15, 1) := by decide +kernel
theorem p141_297 : pool (mcls 141) 297 = some (4, 28, 1) := by decide +kernel
theorem p141_300 : pool (mcls 141) 300 = some (4, 27, 2) := by decide +kernel
theorem p142_17 : pool (mcls 142) 17 = some (3, 11, 0) := by decide +kernel
theorem p142_151 : pool (mcls 142) 151 = some (3, 10, 1) := by decide +kernel
theorem p142_303 : pool (mcls 142) 303 = some (1, 4, 0) := by decide +kernel
theorem p142_304 : pool (mcls 142) 304 = some (3, 4, 2) := by decide +kernel
theorem p142_307 : pool (mcls 142) 307 = some (3, 4, 3) := by decide +kernel
theorem p142_21 : pool (mcls 142) 21 = some (3, 10, 0) := by decide +kernel
theorem p142_310 : pool (mcls 142) 310 = some (4, 29, 2) := by decide +kernel
theorem p143_17 : pool (mcls 143) 17 = some (3, 11, 0) := by decide +kernel
theorem p143_21 : pool (mcls 143) 21 = some (3, 10, 0) := by decide +kernel
theorem p143_313 : pool (mcls 143) 313 = some (1, 2, 0) := by decide +kernel
theorem p143_314 : pool (mcls 143) 314 = some (1, 2, 1) := by decide +kernel
theorem p143_315 : pool (mcls 143) 315 = some (4, 31, 4) := by decide +kernel
theorem p143_319 : pool (mcls 143) 319 = some (4, 32, 4) := by decide +kernel
theorem p144_17 : pool (mcls 144) 17 = some (3, 11, 0) := by decide +kernel
theorem p144_104 : pool (mcls 144) 104 = some (3, 10, 2) := by decide +kernel
theorem p144_206 : pool (mcls 144) 206 = some (4, 57, 1) := by decide +kernel
theorem p144_200 : pool (mcls 144) 200 = some (3, 5, 8) := by decide +kernel
theorem p144_21 : pool (mcls 144) 21 = some (3, 10, 0) := by decide +kernel
theorem p144_323 : pool (mcls 144) 323 = some (4, 58, 2) := by decide +kernel
theorem p144_327 : pool (mcls 144) 327 = some (3, 5, 9) := by decide +kernel
theorem p144_330 : pool (mcls 144) 330 = some (4, 116, 1) := by decide +kernel
theorem p145_17 : pool (mcls 145) 17 = some (3, 11, 0) := by decide +kernel
theorem p145_104 : pool (mcls 145) 104 = some (3, 10, 2) := by decide +kernel
theorem p145_206 : pool (mcls 145) 206 = some (4, 57, 1) := by decide +kernel
theorem p145_333 : cst (mcls 145) 333 = some (-1000000000) := by decide +kernel
theorem p145_66 : pool (mcls 145) 66 = some (3, 11, 7) := by decide +kernel
theorem p145_21 : pool (mcls 145) 21 = some (3, 10, 0) := by decide +kernel
theorem p145_334 : pool (mcls 145) 334 = some (4, 86, 2) := by decide +kernel
theorem p145_337 : pool (mcls 145) 337 = some (4, 91, 2) := by decide +kernel
theorem p145_340 : pool (mcls 145) 340 = some (1, 8, 1) := by decide +kernel
theorem p145_343 : pool (mcls 145) 343 = some (1, 8, 0) := by decide +kernel
theorem p146_17 : pool (mcls 146) 17 = some (3, 11, 0) := by decide +kernel
theorem p146_104 : pool (mcls 146) 104 = some (3, 10, 2) := by decide +kernel
theorem p146_206 : pool (mcls 146) 206 = some (4, 57, 1) := by decide +kernel
theorem p146_346 : csl (mcls 146) 346 = some (-1000000000000) := by decide +kernel
theorem p146_21 : pool (mcls 146) 21 = some (3, 10, 0) := by decide +kernel
theorem p146_123 : pool (mcls 146) 123 = some (4, 10, 0) := by decide +kernel
theorem p146_249 : pool (mcls 146) 249 = some (3, 5, 6) := by decide +kernel
theorem p146_259 : pool (mcls 146) 259 = some (3, 5, 4) := by decide +kernel
theorem p147_348 : csl (mcls 147) 348 = some (-1) := by decide +kernel
theorem p147_17 : pool (mcls 147) 17 = some (3, 11, 0) := by decide +kernel
theorem p147_104 : pool (mcls 147) 104 = some (3, 10, 2) := by decide +kernel
theorem p147_21 : pool (mcls 147) 21 = some (3, 10, 0) := by decide +kernel
theorem p147_350 : pool (mcls 147) 350 = some (4, 62, 2) := by decide +kernel
theorem p147_356 : csl (mcls 147) 356 = some (9223372036854775807) := by decide +kernel
theorem p148_17 : pool (mcls 148) 17 = some (3, 11, 0) := by decide +kernel
theorem p148_104 : pool (mcls 148) 104 = some (3, 10, 2) := by decide +kernel
theorem p148_21 : pool (mcls 148) 21 = some (3, 10, 0) := by decide +kernel
theorem p148_358 : pool (mcls 148) 358 = some (4, 63, 1) := by decide +kernel
theorem p148_362 : pool (mcls 148) 362 = some (4, 64, 1) := by decide +kernel
theorem p148_258 : cst (mcls 148) 258 = some (-100000000) := by decide +kernel
theorem p148_259 : pool (mcls 148) 259 = some (3, 5, 4) := by decide +kernel
theorem p149_17 : pool (mcls 149) 17 = some (3, 11, 0) := by decide +kernel
theorem p149_21 : pool (mcls 149) 21 = some (3, 10, 0) := by decide +kernel
theorem p149_123 : pool (mcls 149) 123 = some (4, 10, 0) := by decide +kernel
theorem p149_104 : pool (mcls 149) 104 = some (3, 10, 2) := by decide +kernel
theorem p149_243 : pool (mcls 149) 243 = some (4, 56, 1) := by decide +kernel
theorem p149_259 : pool (mcls 149) 259 = some (3, 5, 4) := by decide +kernel
theorem p150_73 : pool (mcls 150) 73 = some (3, 11, 8) := by decide +kernel
theorem p150_17 : pool (mcls 150) 17 = some (3, 11, 0) := by decide +kernel
theorem p150_21 : pool (mcls 150) 21 = some (3, 10, 0) := by decide +kernel
theorem p150_104 : pool (mcls 150) 104 = some (3, 10, 2) := by decide +kernel
theorem p150_365 : pool (mcls 150) 365 = some (4, 4, 3) := by decide +kernel
theorem p150_369 : pool (mcls 150) 369 = some (1, 1, 0) := by decide +kernel
theorem p150_370 : pool (mcls 150) 370 = some (1, 1, 1) := by decide +kernel
theorem p150_373 : pool (mcls 150) 373 = some (1, 1, 2) := by decide +kernel
theorem p151_17 : pool (mcls 151) 17 = some (3, 11, 0) := by decide +kernel
theorem p151_21 : pool (mcls 151) 21 = some (3, 10, 0) := by decide +kernel
theorem p151_123 : pool (mcls 151) 123 = some (4, 10, 0) := by decide +kernel
theorem p151_104 : pool (mcls 151) 104 = some (3, 10, 2) := by decide +kernel
theorem p151_376 : pool (mcls 151) 376 = some (4, 65, 2) := by decide +kernel
theorem p152_17 : pool (mcls 152) 17 = some (3, 11, 0) := by decide +kernel
theorem p152_21 : pool (mcls 152) 21 = some (3, 10, 0) := by decide +kernel
theorem p152_93 : pool (mcls 152) 93 = some (4, 13, 1) := by decide +kernel
theorem p152_104 : pool (mcls 152) 104 = some (3, 10, 2) := by decide +kernel
theorem p152_252 : pool (mcls 152) 252 = some (4, 59, 1) := by decide +kernel
theorem p152_246 : pool (mcls 152) 246 = some (3, 5, 5) := by decide +kernel
theorem p153_52 : pool (mcls 153) 52 = some (3, 11, 5) := by decide +kernel
theorem p153_17 : pool (mcls 153) 17 = some (3, 11, 0) := by decide +kernel
theorem p153_21 : pool (mcls 153) 21 = some (3, 10, 0) := by decide +kernel
theorem p153_143 : pool (mcls 153) 143 = some (4, 75, 2) := by decide +kernel
theorem p153_147 : pool (mcls 153) 147 = some (4, 76, 2) := by decide +kernel
theorem p153_25 : pool (mcls 153) 25 = some (3, 11, 1) := by decide +kernel
theorem p153_151 : pool (mcls 153) 151 = some (3, 10, 1) := by decide +kernel
theorem p153_155 : pool (mcls 153) 155 = some (4, 77, 2) := by decide +kernel
theorem p153_162 : pool (mcls 153) 162 = some (1, 4, 1) := by decide +kernel
theorem p153_59 : pool (mcls 153) 59 = some (3, 11, 6) := by decide +kernel
theorem p153_187 : pool (mcls 153) 187 = some (4, 34, 1) := by decide +kernel
theorem p153_379 : pool (mcls 153) 379 = some (4, 162, 0) := by decide +kernel
theorem p153_104 : pool (mcls 153) 104 = some (3, 10, 2) := by decide +kernel
theorem p153_193 : pool (mcls 153) 193 = some (1, 5, 3) := by decide +kernel
theorem p153_203 : pool (mcls 153) 203 = some (4, 114, 0) := by decide +kernel
theorem p153_382 : pool (mcls 153) 382 = some (4, 115, 0) := by decide +kernel
theorem p153_385 : pool (mcls 153) 385 = some (4, 66, 2) := by decide +kernel
theorem p154_17 : pool (mcls 154) 17 = some (3, 11, 0) := by decide +kernel
theorem p154_21 : pool (mcls 154) 21 = some (3, 10, 0) := by decide +kernel
theorem p154_171 : pool (mcls 154) 171 = some (4, 14, 1) := by decide +kernel
theorem p154_59 : pool (mcls 154) 59 = some (3, 11, 6) := by decide +kernel
theorem p154_187 : pool (mcls 154) 187 = some (4, 34, 1) := by decide +kernel
theorem p154_388 : pool (mcls 154) 388 = some (3, 3, 0) := by decide +kernel
theorem p154_379 : pool (mcls 154) 379 = some (4, 162, 0) := by decide +kernel
theorem p154_25 : pool (mcls 154) 25 = some (3, 11, 1) := by decide +kernel
theorem p154_104 : pool (mcls 154) 104 = some (3, 10, 2) := by decide +kernel
theorem p154_193 : pool (mcls 154) 193 = some (1, 5, 3) := by decide +kernel
theorem p155_31 : pool (mcls 155) 31 = some (3, 11, 2) := by decide +kernel
theorem p155_17 : pool (mcls 155) 17 = some (3, 11, 0) := by decide +kernel
theorem p155_391 : pool (mcls 155) 391 = some (4, 2, 1) := by decide +kernel
theorem p155_38 : pool (mcls 155) 38 = some (3, 11, 3) := by decide +kernel
theorem p155_395 : pool (mcls 155) 395 = some (1, 0, 0) := by decide +kernel
theorem p155_167 : pool (mcls 155) 167 = some (4, 69, 3) := by decide +kernel
theorem p156_38 : pool (mcls 156) 38 = some (3, 11, 3) := by decide +kernel
theorem p156_396 : pool (mcls 156) 396 = some (4, 70, 1) := by decide +kernel
theorem p156_258 : cst (mcls 156) 258 = some (-100000000) := by decide +kernel
theorem p156_399 : pool (mcls 156) 399 = some (4, 71, 2) := by decide +kernel
theorem p157_402 : pool (mcls 157) 402 = some (4, 163, 0) := by decide +kernel
theorem p157_405 : pool (mcls 157) 405 = some (3, 11, 11) := by decide +kernel
theorem p157_408 : pool (mcls 157) 408 = some (3, 11, 12) := by decide +kernel
theorem p157_17 : pool (mcls 157) 17 = some (3, 11, 0) := by decide +kernel
theorem p157_411 : pool (mcls 157) 411 = some (4, 107, 1) := by decide +kernel
theorem p157_38 : pool (mcls 157) 38 = some (3, 11, 3) := by decide +kernel
theorem p157_413 : pool (mcls 157) 413 = some (4, 68, 1) := by decide +kernel
theorem p157_416 : pool (mcls 157) 416 = some (1, 11, 13) := by decide +kernel
theorem p157_140 : pool (mcls 157) 140 = some (1, 11, 9) := by decide +kernel
theorem p157_31 : pool (mcls 157) 31 = some (3, 11, 2) := by decide +kernel
theorem p157_395 : pool (mcls 157) 395 = some (1, 0, 0) := by decide +kernel
theorem p158_17 : pool (mcls 158) 17 = some (3, 11, 0) := by decide +kernel
theorem p158_21 : pool (mcls 158) 21 = some (3, 10, 0) := by decide +kernel
theorem p158_313 : pool (mcls 158) 313 = some (1, 2, 0) := by decide +kernel
theorem p158_314 : pool (mcls 158) 314 = some (1, 2, 1) := by decide +kernel
theorem p158_419 : pool (mcls 158) 419 = some (4, 24, 0) := by decide +kernel
theorem p158_422 : pool (mcls 158) 422 = some (4, 140, 1) := by decide +kernel
theorem p158_425 : pool (mcls 158) 425 = some (4, 26, 0) := by decide +kernel
theorem p158_428 : pool (mcls 158) 428 = some (4, 110, 0) := by decide +kernel
theorem p158_104 : pool (mcls 158) 104 = some (3, 10, 2) := by decide +kernel
theorem p158_431 : pool (mcls 158) 431 = some (1, 5, 2) := by decide +kernel
theorem p158_193 : pool (mcls 158) 193 = some (1, 5, 3) := by decide +kernel
theorem p158_183 : pool (mcls 158) 183 = some (2, 5, 0) := by decide +kernel
theorem p158_203 : pool (mcls 158) 203 = some (4, 114, 0) := by decide +kernel
theorem p158_382 : pool (mcls 158) 382 = some (4, 115, 0) := by decide +kernel
theorem p158_140 : pool (mcls 158) 140 = some (1, 11, 9) := by decide +kernel
theorem p158_31 : pool (mcls 158) 31 = some (3, 11, 2) := by decide +kernel
theorem p158_395 : pool (mcls 158) 395 = some (1, 0, 0) := by decide +kernel
theorem p158_45 : pool (mcls 158) 45 = some (3, 11, 4) := by decide +kernel
theorem p158_225 : pool (mcls 158) 225 = some (1, 9, 0) := by decide +kernel
theorem p158_38 : pool (mcls 158) 38 = some (3, 11, 3) := by decide +kernel
theorem p158_434 : pool (mcls 158) 434 = some (1, 6, 0) := by decide +kernel
theorem p158_151 : pool (mcls 158) 151 = some (3, 10, 1) := by decide +kernel
theorem p158_162 : pool (mcls 158) 162 = some (1, 4, 1) := by decide +kernel
theorem p158_258 : cst (mcls 158) 258 = some (-100000000) := by decide +kernel
theorem p160_140 : pool (mcls 160) 140 = some (1, 11, 9) := by decide +kernel
theorem p160_437 : cst (mcls 160) 437 = some (1664525) := by decide +kernel
theorem p160_438 : cst (mcls 160) 438 = some (1013904223) := by decide +kernel
theorem p161_17 : pool (mcls 161) 17 = some (3, 11, 0) := by decide +kernel
theorem p161_21 : pool (mcls 161) 21 = some (3, 10, 0) := by decide +kernel
theorem p161_113 : pool (mcls 161) 113 = some (3, 2, 4) := by decide +kernel
theorem p161_439 : pool (mcls 161) 439 = some (4, 30, 1) := by decide +kernel
theorem p161_52 : pool (mcls 161) 52 = some (3, 11, 5) := by decide +kernel
theorem p161_442 : pool (mcls 161) 442 = some (4, 74, 2) := by decide +kernel
theorem p161_283 : pool (mcls 161) 283 = some (4, 291, 2) := by decide +kernel
theorem p162_25 : pool (mcls 162) 25 = some (3, 11, 1) := by decide +kernel
theorem p162_104 : pool (mcls 162) 104 = some (3, 10, 2) := by decide +kernel
theorem p162_21 : pool (mcls 162) 21 = some (3, 10, 0) := by decide +kernel
theorem p162_177 : pool (mcls 162) 177 = some (4, 51, 1) := by decide +kernel
theorem p162_59 : pool (mcls 162) 59 = some (3, 11, 6) := by decide +kernel
theorem p162_190 : pool (mcls 162) 190 = some (4, 35, 1) := by decide +kernel
theorem p162_183 : pool (mcls 162) 183 = some (2, 5, 0) := by decide +kernel
theorem p162_196 : pool (mcls 162) 196 = some (4, 52, 2) := by decide +kernel
theorem p163_405 : pool (mcls 163) 405 = some (3, 11, 11) := by decide +kernel
theorem p163_9 : pool (mcls 163) 9 = some (5, 10, 3) := by decide +kernel
theorem p163_11 : pool (mcls 163) 11 = some (5, 2, 6) := by decide +kernel
theorem p163_13 : pool (mcls 163) 13 = some (4, 7, 0) := by decide +kernel
theorem p163_14 : pool (mcls 163) 14 = some (4, 106, 1) := by decide +kernel
theorem p163_408 : pool (mcls 163) 408 = some (3, 11, 12) := by decide +kernel
theorem p163_35 : pool (mcls 163) 35 = some (5, 6, 2) := by decide +kernel
theorem p163_37 : pool (mcls 163) 37 = some (4, 67, 0) := by decide +kernel
theorem p163_17 : pool (mcls 163) 17 = some (3, 11, 0) := by decide +kernel
theorem p163_411 : pool (mcls 163) 411 = some (4, 107, 1) := by decide +kernel
theorem p163_38 : pool (mcls 163) 38 = some (3, 11, 3) := by decide +kernel
theorem p163_413 : pool (mcls 163) 413 = some (4, 68, 1) := by decide +kernel
theorem p163_140 : pool (mcls 163) 140 = some (1, 11, 9) := by decide +kernel
theorem p163_416 : pool (mcls 163) 416 = some (1, 11, 13) := by decide +kernel
theorem p164_1 : pool (mcls 164) 1 = some (7, 0, 0) := by decide +kernel
theorem p164_7 : pool (mcls 164) 7 = some (3, 12, 1) := by decide +kernel
theorem p164_13 : pool (mcls 164) 13 = some (3, 12, 2) := by decide +kernel
theorem p164_16 : pool (mcls 164) 16 = some (3, 12, 4) := by decide +kernel
theorem p164_19 : pool (mcls 164) 19 = some (3, 12, 6) := by decide +kernel
theorem p164_22 : pool (mcls 164) 22 = some (3, 12, 8) := by decide +kernel
theorem p164_25 : pool (mcls 164) 25 = some (3, 12, 10) := by decide +kernel
theorem p164_28 : pool (mcls 164) 28 = some (3, 12, 11) := by decide +kernel
theorem p164_31 : pool (mcls 164) 31 = some (3, 12, 14) := by decide +kernel
theorem p164_34 : pool (mcls 164) 34 = some (3, 12, 15) := by decide +kernel
theorem p164_37 : pool (mcls 164) 37 = some (1, 12, 17) := by decide +kernel
theorem p164_41 : pool (mcls 164) 41 = some (3, 12, 18) := by decide +kernel
theorem p164_44 : pool (mcls 164) 44 = some (3, 12, 19) := by decide +kernel
theorem p164_48 : pool (mcls 164) 48 = some (3, 12, 22) := by decide +kernel
theorem p164_51 : pool (mcls 164) 51 = some (3, 12, 24) := by decide +kernel
theorem p164_54 : pool (mcls 164) 54 = some (3, 12, 25) := by decide +kernel
theorem p166_7 : pool (mcls 166) 7 = some (3, 12, 1) := by decide +kernel
theorem p167_7 : pool (mcls 167) 7 = some (3, 12, 1) := by decide +kernel
theorem p168_60 : pool (mcls 168) 60 = some (4, 166, 0) := by decide +kernel
theorem p168_64 : pool (mcls 168) 64 = some (4, 167, 0) := by decide +kernel
theorem p169_67 : pool (mcls 169) 67 = some (4, 168, 0) := by decide +kernel
theorem p170_7 : pool (mcls 170) 7 = some (3, 12, 1) := by decide +kernel
theorem p171_7 : pool (mcls 171) 7 = some (3, 12, 1) := by decide +kernel
theorem p172_7 : pool (mcls 172) 7 = some (3, 12, 1) := by decide +kernel
theorem p173_7 : pool (mcls 173) 7 = some (3, 12, 1) := by decide +kernel
theorem p174_64 : pool (mcls 174) 64 = some (4, 167, 0) := by decide +kernel
theorem p175_64 : pool (mcls 175) 64 = some (4, 167, 0) := by decide +kernel
theorem p177_70 : csl (mcls 177) 70 = some (255) := by decide +kernel
theorem p178_72 : pool (mcls 178) 72 = some (4, 170, 1) := by decide +kernel
theorem p178_76 : pool (mcls 178) 76 = some (4, 177, 1) := by decide +kernel
theorem p179_67 : pool (mcls 179) 67 = some (4, 168, 0) := by decide +kernel
theorem p179_80 : pool (mcls 179) 80 = some (4, 175, 1) := by decide +kernel
theorem p179_64 : pool (mcls 179) 64 = some (4, 167, 0) := by decide +kernel
theorem p179_83 : pool (mcls 179) 83 = some (4, 174, 1) := by decide +kernel
theorem p179_60 : pool (mcls 179) 60 = some (4, 166, 0) := by decide +kernel
theorem p181_64 : pool (mcls 181) 64 = some (4, 167, 0) := by decide +kernel
theorem p182_86 : pool (mcls 182) 86 = some (4, 180, 1) := by decide +kernel
theorem p182_89 : pool (mcls 182) 89 = some (4, 172, 1) := by decide +kernel
theorem p182_93 : pool (mcls 182) 93 = some (4, 181, 1) := by decide +kernel
theorem p183_7 : pool (mcls 183) 7 = some (3, 12, 1) := by decide +kernel
theorem p184_86 : pool (mcls 184) 86 = some (4, 180, 1) := by decide +kernel
theorem p184_96 : pool (mcls 184) 96 = some (4, 171, 1) := by decide +kernel
theorem p184_93 : pool (mcls 184) 93 = some (4, 181, 1) := by decide +kernel
theorem p185_99 : pool (mcls 185) 99 = some (1, 12, 5) := by decide +kernel
theorem p185_16 : pool (mcls 185) 16 = some (3, 12, 4) := by decide +kernel
theorem p186_102 : pool (mcls 186) 102 = some (1, 12, 7) := by decide +kernel
theorem p186_19 : pool (mcls 186) 19 = some (3, 12, 6) := by decide +kernel
theorem p186_7 : pool (mcls 186) 7 = some (3, 12, 1) := by decide +kernel
theorem p187_7 : pool (mcls 187) 7 = some (3, 12, 1) := by decide +kernel
theorem p188_105 : pool (mcls 188) 105 = some (4, 186, 0) := by decide +kernel
theorem p188_108 : pool (mcls 188) 108 = some (4, 187, 0) := by decide +kernel
theorem p189_57 : pool (mcls 189) 57 = some (1, 12, 0) := by decide +kernel
theorem p189_102 : pool (mcls 189) 102 = some (1, 12, 7) := by decide +kernel
theorem p189_7 : pool (mcls 189) 7 = some (3, 12, 1) := by decide +kernel
theorem p189_19 : pool (mcls 189) 19 = some (3, 12, 6) := by decide +kernel
theorem p189_111 : pool (mcls 189) 111 = some (4, 185, 3) := by decide +kernel
theorem p190_7 : pool (mcls 190) 7 = some (3, 12, 1) := by decide +kernel
theorem p191_57 : pool (mcls 191) 57 = some (1, 12, 0) := by decide +kernel
theorem p191_115 : pool (mcls 191) 115 = some (4, 165, 3) := by decide +kernel
theorem p191_105 : pool (mcls 191) 105 = some (4, 186, 0) := by decide +kernel
theorem p191_119 : pool (mcls 191) 119 = some (4, 190, 2) := by decide +kernel
theorem p192_57 : pool (mcls 192) 57 = some (1, 12, 0) := by decide +kernel
theorem p192_123 : pool (mcls 192) 123 = some (4, 169, 1) := by decide +kernel
theorem p192_126 : pool (mcls 192) 126 = some (4, 188, 0) := by decide +kernel
theorem p192_7 : pool (mcls 192) 7 = some (3, 12, 1) := by decide +kernel
theorem p192_76 : pool (mcls 192) 76 = some (4, 177, 1) := by decide +kernel
theorem p192_72 : pool (mcls 192) 72 = some (4, 170, 1) := by decide +kernel
theorem p193_57 : pool (mcls 193) 57 = some (1, 12, 0) := by decide +kernel
theorem p193_123 : pool (mcls 193) 123 = some (4, 169, 1) := by decide +kernel
theorem p193_89 : pool (mcls 193) 89 = some (4, 172, 1) := by decide +kernel
theorem p193_126 : pool (mcls 193) 126 = some (4, 188, 0) := by decide +kernel
theorem p193_7 : pool (mcls 193) 7 = some (3, 12, 1) := by decide +kernel
theorem p194_57 : pool (mcls 194) 57 = some (1, 12, 0) := by decide +kernel
theorem p194_123 : pool (mcls 194) 123 = some (4, 169, 1) := by decide +kernel
theorem p194_115 : pool (mcls 194) 115 = some (4, 165, 3) := by decide +kernel
theorem p194_105 : pool (mcls 194) 105 = some (4, 186, 0) := by decide +kernel
theorem p194_7 : pool (mcls 194) 7 = some (3, 12, 1) := by decide +kernel
theorem p195_80 : pool (mcls 195) 80 = some (4, 175, 1) := by decide +kernel
theorem p195_64 : pool (mcls 195) 64 = some (4, 167, 0) := by decide +kernel
theorem p195_83 : pool (mcls 195) 83 = some (4, 174, 1) := by decide +kernel
theorem p195_60 : pool (mcls 195) 60 = some (4, 166, 0) := by decide +kernel
theorem p196_64 : pool (mcls 196) 64 = some (4, 167, 0) := by decide +kernel
theorem p197_129 : pool (mcls 197) 129 = some (4, 195, 2) := by decide +kernel
theorem p197_89 : pool (mcls 197) 89 = some (4, 172, 1) := by decide +kernel
theorem p197_133 : pool (mcls 197) 133 = some (4, 178, 2) := by decide +kernel
theorem p197_136 : pool (mcls 197) 136 = some (4, 176, 1) := by decide +kernel
theorem p198_83 : pool (mcls 198) 83 = some (4, 174, 1) := by decide +kernel
theorem p198_136 : pool (mcls 198) 136 = some (4, 176, 1) := by decide +kernel
theorem p198_80 : pool (mcls 198) 80 = some (4, 175, 1) := by decide +kernel
theorem p199_67 : pool (mcls 199) 67 = some (4, 168, 0) := by decide +kernel
theorem p199_139 : pool (mcls 199) 139 = some (4, 206, 1) := by decide +kernel
theorem p199_142 : pool (mcls 199) 142 = some (4, 198, 2) := by decide +kernel
theorem p200_57 : pool (mcls 200) 57 = some (1, 12, 0) := by decide +kernel
theorem p200_115 : pool (mcls 200) 115 = some (4, 165, 3) := by decide +kernel
theorem p200_105 : pool (mcls 200) 105 = some (4, 186, 0) := by decide +kernel
theorem p200_67 : pool (mcls 200) 67 = some (4, 168, 0) := by decide +kernel
theorem p200_89 : pool (mcls 200) 89 = some (4, 172, 1) := by decide +kernel
theorem p200_145 : pool (mcls 200) 145 = some (4, 197, 1) := by decide +kernel
theorem p200_148 : pool (mcls 200) 148 = some (4, 199, 1) := by decide +kernel
theorem p200_7 : pool (mcls 200) 7 = some (3, 12, 1) := by decide +kernel
theorem p201_57 : pool (mcls 201) 57 = some (1, 12, 0) := by decide +kernel
theorem p201_115 : pool (mcls 201) 115 = some (4, 165, 3) := by decide +kernel
theorem p201_126 : pool (mcls 201) 126 = some (4, 188, 0) := by decide +kernel
theorem p201_67 : pool (mcls 201) 67 = some (4, 168, 0) := by decide +kernel
theorem p201_7 : pool (mcls 201) 7 = some (3, 12, 1) := by decide +kernel
theorem p201_72 : pool (mcls 201) 72 = some (4, 170, 1) := by decide +kernel
theorem p201_83 : pool (mcls 201) 83 = some (4, 174, 1) := by decide +kernel
theorem p201_80 : pool (mcls 201) 80 = some (4, 175, 1) := by decide +kernel
theorem p201_76 : pool (mcls 201) 76 = some (4, 177, 1) := by decide +kernel
theorem p202_151 : cst (mcls 202) 151 = some (1664525) := by decide +kernel
theorem p202_152 : pool (mcls 202) 152 = some (1, 12, 3) := by decide +kernel
theorem p202_155 : cst (mcls 202) 155 = some (1013904223) := by decide +kernel
theorem p203_57 : pool (mcls 203) 57 = some (1, 12, 0) := by decide +kernel
theorem p203_115 : pool (mcls 203) 115 = some (4, 165, 3) := by decide +kernel
theorem p203_126 : pool (mcls 203) 126 = some (4, 188, 0) := by decide +kernel
theorem p203_67 : pool (mcls 203) 67 = some (4, 168, 0) := by decide +kernel
theorem p203_156 : pool (mcls 203) 156 = some (4, 202, 1) := by decide +kernel
theorem p203_7 : pool (mcls 203) 7 = some (3, 12, 1) := by decide +kernel
theorem p203_72 : pool (mcls 203) 72 = some (4, 170, 1) := by decide +kernel
theorem p203_76 : pool (mcls 203) 76 = some (4, 177, 1) := by decide +kernel
theorem p204_57 : pool (mcls 204) 57 = some (1, 12, 0) := by decide +kernel
theorem p204_152 : pool (mcls 204) 152 = some (1, 12, 3) := by decide +kernel
theorem p205_123 : pool (mcls 205) 123 = some (4, 169, 1) := by decide +kernel
theorem p205_83 : pool (mcls 205) 83 = some (4, 174, 1) := by decide +kernel
theorem p205_60 : pool (mcls 205) 60 = some (4, 166, 0) := by decide +kernel
theorem p205_80 : pool (mcls 205) 80 = some (4, 175, 1) := by decide +kernel
theorem p205_64 : pool (mcls 205) 64 = some (4, 167, 0) := by decide +kernel
theorem p206_159 : pool (mcls 206) 159 = some (4, 205, 1) := by decide +kernel
theorem p206_64 : pool (mcls 206) 64 = some (4, 167, 0) := by decide +kernel
theorem p206_89 : pool (mcls 206) 89 = some (4, 172, 1) := by decide +kernel
theorem p206_133 : pool (mcls 206) 133 = some (4, 178, 2) := by decide +kernel
theorem p207_83 : pool (mcls 207) 83 = some (4, 174, 1) := by decide +kernel
theorem p207_60 : pool (mcls 207) 60 = some (4, 166, 0) := by decide +kernel
theorem p207_80 : pool (mcls 207) 80 = some (4, 175, 1) := by decide +kernel
theorem p207_64 : pool (mcls 207) 64 = some (4, 167, 0) := by decide +kernel
theorem p208_162 : pool (mcls 208) 162 = some (4, 207, 2) := by decide +kernel
theorem p209_165 : pool (mcls 209) 165 = some (4, 208, 1) := by decide +kernel
theorem p209_162 : pool (mcls 209) 162 = some (4, 207, 2) := by decide +kernel
theorem p210_168 : pool (mcls 210) 168 = some (1, 12, 9) := by decide +kernel
theorem p210_67 : pool (mcls 210) 67 = some (4, 168, 0) := by decide +kernel
theorem p210_139 : pool (mcls 210) 139 = some (4, 206, 1) := by decide +kernel
theorem p210_22 : pool (mcls 210) 22 = some (3, 12, 8) := by decide +kernel
theorem p211_22 : pool (mcls 211) 22 = some (3, 12, 8) := by decide +kernel
theorem p211_139 : pool (mcls 211) 139 = some (4, 206, 1) := by decide +kernel
theorem p212_28 : pool (mcls 212) 28 = some (3, 12, 11) := by decide +kernel
theorem p212_168 : pool (mcls 212) 168 = some (1, 12, 9) := by decide +kernel
theorem p212_22 : pool (mcls 212) 22 = some (3, 12, 8) := by decide +kernel
theorem p212_171 : pool (mcls 212) 171 = some (4, 209, 1) := by decide +kernel
theorem p212_174 : pool (mcls 212) 174 = some (4, 211, 2) := by decide +kernel
theorem p212_142 : pool (mcls 212) 142 = some (4, 198, 2) := by decide +kernel
theorem p213_178 : pool (mcls 213) 178 = some (4, 212, 0) := by decide +kernel
theorem p213_168 : pool (mcls 213) 168 = some (1, 12, 9) := by decide +kernel
theorem p213_22 : pool (mcls 213) 22 = some (3, 12, 8) := by decide +kernel
theorem p213_171 : pool (mcls 213) 171 = some (4, 209, 1) := by decide +kernel
theorem p213_28 : pool (mcls 213) 28 = some (3, 12, 11) := by decide +kernel
theorem p213_174 : pool (mcls 213) 174 = some (4, 211, 2) := by decide +kernel
theorem p213_142 : pool (mcls 213) 142 = some (4, 198, 2) := by decide +kernel
theorem p213_25 : pool (mcls 213) 25 = some (3, 12, 10) := by decide +kernel
theorem p214_168 : pool (mcls 214) 168 = some (1, 12, 9) := by decide +kernel
theorem p214_25 : pool (mcls 214) 25 = some (3, 12, 10) := by decide +kernel
theorem p214_181 : cst (mcls 214) 181 = some (1000000) := by decide +kernel
theorem p214_22 : pool (mcls 214) 22 = some (3, 12, 8) := by decide +kernel
theorem p214_171 : pool (mcls 214) 171 = some (4, 209, 1) := by decide +kernel
theorem p214_174 : pool (mcls 214) 174 = some (4, 211, 2) := by decide +kernel
theorem p214_142 : pool (mcls 214) 142 = some (4, 198, 2) := by decide +kernel
theorem p215_7 : pool (mcls 215) 7 = some (3, 12, 1) := by decide +kernel
theorem p216_83 : pool (mcls 216) 83 = some (4, 174, 1) := by decide +kernel
theorem p216_80 : pool (mcls 216) 80 = some (4, 175, 1) := by decide +kernel
theorem p216_64 : pool (mcls 216) 64 = some (4, 167, 0) := by decide +kernel
theorem p216_182 : pool (mcls 216) 182 = some (4, 215, 1) := by decide +kernel
theorem p216_60 : pool (mcls 216) 60 = some (4, 166, 0) := by decide +kernel
theorem p217_83 : pool (mcls 217) 83 = some (4, 174, 1) := by decide +kernel
theorem p217_64 : pool (mcls 217) 64 = some (4, 167, 0) := by decide +kernel
theorem p217_80 : pool (mcls 217) 80 = some (4, 175, 1) := by decide +kernel
theorem p217_182 : pool (mcls 217) 182 = some (4, 215, 1) := by decide +kernel
theorem p218_186 : pool (mcls 218) 186 = some (4, 210, 0) := by decide +kernel
theorem p218_7 : pool (mcls 218) 7 = some (3, 12, 1) := by decide +kernel
theorem p218_189 : pool (mcls 218) 189 = some (4, 213, 0) := by decide +kernel
theorem p218_192 : pool (mcls 218) 192 = some (4, 214, 0) := by decide +kernel
theorem p218_168 : pool (mcls 218) 168 = some (1, 12, 9) := by decide +kernel
theorem p218_25 : pool (mcls 218) 25 = some (3, 12, 10) := by decide +kernel
theorem p218_22 : pool (mcls 218) 22 = some (3, 12, 8) := by decide +kernel
theorem p218_171 : pool (mcls 218) 171 = some (4, 209, 1) := by decide +kernel
theorem p218_142 : pool (mcls 218) 142 = some (4, 198, 2) := by decide +kernel
theorem p218_165 : pool (mcls 218) 165 = some (4, 208, 1) := by decide +kernel
theorem p218_195 : pool (mcls 218) 195 = some (4, 216, 2) := by decide +kernel
theorem p218_198 : pool (mcls 218) 198 = some (4, 217, 2) := by decide +kernel
theorem p219_186 : pool (mcls 219) 186 = some (4, 210, 0) := by decide +kernel
theorem p219_115 : pool (mcls 219) 115 = some (4, 165, 3) := by decide +kernel
theorem p219_168 : pool (mcls 219) 168 = some (1, 12, 9) := by decide +kernel
theorem p220_57 : pool (mcls 220) 57 = some (1, 12, 0) := by decide +kernel
theorem p220_201 : pool (mcls 220) 201 = some (4, 219, 1) := by decide +kernel
theorem p220_126 : pool (mcls 220) 126 = some (4, 188, 0) := by decide +kernel
theorem p220_204 : pool (mcls 220) 204 = some (4, 218, 1) := by decide +kernel
theorem p220_168 : pool (mcls 220) 168 = some (1, 12, 9) := by decide +kernel
theorem p220_111 : pool (mcls 220) 111 = some (4, 185, 3) := by decide +kernel
theorem p221_57 : pool (mcls 221) 57 = some (1, 12, 0) := by decide +kernel
theorem p221_207 : pool (mcls 221) 207 = some (4, 179, 1) := by decide +kernel
theorem p221_7 : pool (mcls 221) 7 = some (3, 12, 1) := by decide +kernel
theorem p221_126 : pool (mcls 221) 126 = some (4, 188, 0) := by decide +kernel
theorem p222_67 : pool (mcls 222) 67 = some (4, 168, 0) := by decide +kernel
theorem p222_89 : pool (mcls 222) 89 = some (4, 172, 1) := by decide +kernel
theorem p222_210 : pool (mcls 222) 210 = some (4, 173, 1) := by decide +kernel
theorem p223_7 : pool (mcls 223) 7 = some (3, 12, 1) := by decide +kernel
theorem p224_67 : pool (mcls 224) 67 = some (4, 168, 0) := by decide +kernel
theorem p224_89 : pool (mcls 224) 89 = some (4, 172, 1) := by decide +kernel
theorem p224_210 : pool (mcls 224) 210 = some (4, 173, 1) := by decide +kernel
theorem p224_96 : pool (mcls 224) 96 = some (4, 171, 1) := by decide +kernel
theorem p224_7 : pool (mcls 224) 7 = some (3, 12, 1) := by decide +kernel
theorem p224_72 : pool (mcls 224) 72 = some (4, 170, 1) := by decide +kernel
theorem p224_213 : pool (mcls 224) 213 = some (4, 223, 4) := by decide +kernel
theorem p225_67 : pool (mcls 225) 67 = some (4, 168, 0) := by decide +kernel
theorem p225_89 : pool (mcls 225) 89 = some (4, 172, 1) := by decide +kernel
theorem p225_210 : pool (mcls 225) 210 = some (4, 173, 1) := by decide +kernel
theorem p225_129 : pool (mcls 225) 129 = some (4, 195, 2) := by decide +kernel
theorem p225_217 : pool (mcls 225) 217 = some (4, 196, 2) := by decide +kernel
theorem p225_220 : pool (mcls 225) 220 = some (4, 182, 1) := by decide +kernel
theorem p225_223 : pool (mcls 225) 223 = some (4, 183, 1) := by decide +kernel
theorem p225_226 : pool (mcls 225) 226 = some (4, 184, 1) := by decide +kernel
theorem p225_229 : pool (mcls 225) 229 = some (4, 224, 0) := by decide +kernel
theorem p225_7 : pool (mcls 225) 7 = some (3, 12, 1) := by decide +kernel
theorem p225_133 : pool (mcls 225) 133 = some (4, 178, 2) := by decide +kernel
theorem p225_213 : pool (mcls 225) 213 = some (4, 223, 4) := by decide +kernel
theorem p226_57 : pool (mcls 226) 57 = some (1, 12, 0) := by decide +kernel
theorem p226_108 : pool (mcls 226) 108 = some (4, 187, 0) := by decide +kernel
theorem p226_232 : pool (mcls 226) 232 = some (4, 222, 0) := by decide +kernel
theorem p226_7 : pool (mcls 226) 7 = some (3, 12, 1) := by decide +kernel
theorem p227_57 : pool (mcls 227) 57 = some (1, 12, 0) := by decide +kernel
theorem p227_115 : pool (mcls 227) 115 = some (4, 165, 3) := by decide +kernel
theorem p227_7 : pool (mcls 227) 7 = some (3, 12, 1) := by decide +kernel
theorem p227_235 : pool (mcls 227) 235 = some (4, 225, 0) := by decide +kernel
theorem p227_111 : pool (mcls 227) 111 = some (4, 185, 3) := by decide +kernel
theorem p227_232 : pool (mcls 227) 232 = some (4, 222, 0) := by decide +kernel
theorem p227_239 : pool (mcls 227) 239 = some (4, 232, 0) := by decide +kernel
theorem p228_7 : pool (mcls 228) 7 = some (3, 12, 1) := by decide +kernel
theorem p228_93 : pool (mcls 228) 93 = some (4, 181, 1) := by decide +kernel
theorem p228_86 : pool (mcls 228) 86 = some (4, 180, 1) := by decide +kernel
theorem p228_133 : pool (mcls 228) 133 = some (4, 178, 2) := by decide +kernel
theorem p229_207 : pool (mcls 229) 207 = some (4, 179, 1) := by decide +kernel
theorem p229_220 : pool (mcls 229) 220 = some (4, 182, 1) := by decide +kernel
theorem p229_86 : pool (mcls 229) 86 = some (4, 180, 1) := by decide +kernel
theorem p229_210 : pool (mcls 229) 210 = some (4, 173, 1) := by decide +kernel
theorem p229_93 : pool (mcls 229) 93 = some (4, 181, 1) := by decide +kernel
theorem p230_242 : pool (mcls 230) 242 = some (4, 229, 1) := by decide +kernel
theorem p230_223 : pool (mcls 230) 223 = some (4, 183, 1) := by decide +kernel
theorem p230_245 : pool (mcls 230) 245 = some (4, 228, 1) := by decide +kernel
theorem p231_242 : pool (mcls 231) 242 = some (4, 229, 1) := by decide +kernel
theorem p231_223 : pool (mcls 231) 223 = some (4, 183, 1) := by decide +kernel
theorem p231_7 : pool (mcls 231) 7 = some (3, 12, 1) := by decide +kernel
theorem p231_86 : pool (mcls 231) 86 = some (4, 180, 1) := by decide +kernel
theorem p231_93 : pool (mcls 231) 93 = some (4, 181, 1) := by decide +kernel
theorem p231_245 : pool (mcls 231) 245 = some (4, 228, 1) := by decide +kernel
theorem p232_67 : pool (mcls 232) 67 = some (4, 168, 0) := by decide +kernel
theorem p232_248 : pool (mcls 232) 248 = some (4, 230, 1) := by decide +kernel
theorem p233_67 : pool (mcls 233) 67 = some (4, 168, 0) := by decide +kernel
theorem p233_251 : pool (mcls 233) 251 = some (4, 231, 1) := by decide +kernel
theorem p234_7 : pool (mcls 234) 7 = some (3, 12, 1) := by decide +kernel
theorem p235_67 : pool (mcls 235) 67 = some (4, 168, 0) := by decide +kernel
theorem p235_210 : pool (mcls 235) 210 = some (4, 173, 1) := by decide +kernel
theorem p235_7 : pool (mcls 235) 7 = some (3, 12, 1) := by decide +kernel
theorem p235_70 : csl (mcls 235) 70 = some (255) := by decide +kernel
theorem p236_67 : pool (mcls 236) 67 = some (4, 168, 0) := by decide +kernel
theorem p236_210 : pool (mcls 236) 210 = some (4, 173, 1) := by decide +kernel
theorem p236_7 : pool (mcls 236) 7 = some (3, 12, 1) := by decide +kernel
theorem p237_57 : pool (mcls 237) 57 = some (1, 12, 0) := by decide +kernel
theorem p237_254 : pool (mcls 237) 254 = some (4, 234, 1) := by decide +kernel
theorem p237_257 : pool (mcls 237) 257 = some (4, 235, 2) := by decide +kernel
theorem p237_105 : pool (mcls 237) 105 = some (4, 186, 0) := by decide +kernel
theorem p237_260 : pool (mcls 237) 260 = some (4, 236, 2) := by decide +kernel
theorem p237_111 : pool (mcls 237) 111 = some (4, 185, 3) := by decide +kernel
theorem p238_7 : pool (mcls 238) 7 = some (3, 12, 1) := by decide +kernel
theorem p238_86 : pool (mcls 238) 86 = some (4, 180, 1) := by decide +kernel
theorem p238_93 : pool (mcls 238) 93 = some (4, 181, 1) := by decide +kernel
theorem p238_133 : pool (mcls 238) 133 = some (4, 178, 2) := by decide +kernel
theorem p238_70 : csl (mcls 238) 70 = some (255) := by decide +kernel
theorem p239_242 : pool (mcls 239) 242 = some (4, 229, 1) := by decide +kernel
theorem p239_7 : pool (mcls 239) 7 = some (3, 12, 1) := by decide +kernel
theorem p239_86 : pool (mcls 239) 86 = some (4, 180, 1) := by decide +kernel
theorem p239_93 : pool (mcls 239) 93 = some (4, 181, 1) := by decide +kernel
theorem p241_263 : pool (mcls 241) 263 = some (1, 12, 13) := by decide +kernel
theorem p241_67 : pool (mcls 241) 67 = some (4, 168, 0) := by decide +kernel
theorem p241_266 : pool (mcls 241) 266 = some (4, 239, 3) := by decide +kernel
theorem p241_269 : pool (mcls 241) 269 = some (4, 238, 2) := by decide +kernel
theorem p241_272 : pool (mcls 241) 272 = some (1, 12, 12) := by decide +kernel
theorem p241_275 : pool (mcls 241) 275 = some (4, 240, 2) := by decide +kernel
theorem p242_57 : pool (mcls 242) 57 = some (1, 12, 0) := by decide +kernel
theorem p242_254 : pool (mcls 242) 254 = some (4, 234, 1) := by decide +kernel
theorem p242_115 : pool (mcls 242) 115 = some (4, 165, 3) := by decide +kernel
theorem p242_278 : pool (mcls 242) 278 = some (4, 241, 2) := by decide +kernel
theorem p242_281 : cst (mcls 242) 281 = some (-1000000000) := by decide +kernel
theorem p242_272 : pool (mcls 242) 272 = some (1, 12, 12) := by decide +kernel
theorem p242_263 : pool (mcls 242) 263 = some (1, 12, 13) := by decide +kernel
theorem p243_7 : pool (mcls 243) 7 = some (3, 12, 1) := by decide +kernel
theorem p243_31 : pool (mcls 243) 31 = some (3, 12, 14) := by decide +kernel
theorem p243_278 : pool (mcls 243) 278 = some (4, 241, 2) := by decide +kernel
theorem p243_263 : pool (mcls 243) 263 = some (1, 12, 13) := by decide +kernel
theorem p243_272 : pool (mcls 243) 272 = some (1, 12, 12) := by decide +kernel
theorem p243_257 : pool (mcls 243) 257 = some (4, 235, 2) := by decide +kernel
theorem p243_260 : pool (mcls 243) 260 = some (4, 236, 2) := by decide +kernel
theorem p244_7 : pool (mcls 244) 7 = some (3, 12, 1) := by decide +kernel
theorem p244_13 : pool (mcls 244) 13 = some (3, 12, 2) := by decide +kernel
theorem p245_57 : pool (mcls 245) 57 = some (1, 12, 0) := by decide +kernel
theorem p245_13 : pool (mcls 245) 13 = some (3, 12, 2) := by decide +kernel
theorem p245_7 : pool (mcls 245) 7 = some (3, 12, 1) := by decide +kernel
theorem p245_282 : pool (mcls 245) 282 = some (4, 243, 0) := by decide +kernel
theorem p245_285 : pool (mcls 245) 285 = some (4, 244, 0) := by decide +kernel
theorem p245_105 : pool (mcls 245) 105 = some (4, 186, 0) := by decide +kernel
theorem p245_111 : pool (mcls 245) 111 = some (4, 185, 3) := by decide +kernel
theorem p246_34 : pool (mcls 246) 34 = some (3, 12, 15) := by decide +kernel
theorem p246_288 : pool (mcls 246) 288 = some (1, 12, 16) := by decide +kernel
theorem p247_57 : pool (mcls 247) 57 = some (1, 12, 0) := by decide +kernel
theorem p247_288 : pool (mcls 247) 288 = some (1, 12, 16) := by decide +kernel
theorem p247_291 : pool (mcls 247) 291 = some (4, 246, 1) := by decide +kernel
theorem p248_57 : pool (mcls 248) 57 = some (1, 12, 0) := by decide +kernel
theorem p248_288 : pool (mcls 248) 288 = some (1, 12, 16) := by decide +kernel
theorem p248_115 : pool (mcls 248) 115 = some (4, 165, 3) := by decide +kernel
theorem p250_294 : pool (mcls 250) 294 = some (1, 12, 20) := by decide +kernel
theorem p250_297 : pool (mcls 250) 297 = some (1, 12, 21) := by decide +kernel
theorem p250_34 : pool (mcls 250) 34 = some (3, 12, 15) := by decide +kernel
theorem p250_300 : pool (mcls 250) 300 = some (4, 249, 1) := by decide +kernel
theorem p250_44 : pool (mcls 250) 44 = some (3, 12, 19) := by decide +kernel
theorem p250_41 : pool (mcls 250) 41 = some (3, 12, 18) := by decide +kernel
theorem p250_76 : pool (mcls 250) 76 = some (4, 177, 1) := by decide +kernel
theorem p251_57 : pool (mcls 251) 57 = some (1, 12, 0) := by decide +kernel
theorem p251_288 : pool (mcls 251) 288 = some (1, 12, 16) := by decide +kernel
theorem p251_303 : pool (mcls 251) 303 = some (4, 250, 1) := by decide +kernel
theorem p251_37 : pool (mcls 251) 37 = some (1, 12, 17) := by decide +kernel
theorem p251_105 : pool (mcls 251) 105 = some (4, 186, 0) := by decide +kernel
theorem p251_294 : pool (mcls 251) 294 = some (1, 12, 20) := by decide +kernel
theorem p251_297 : pool (mcls 251) 297 = some (1, 12, 21) := by decide +kernel
theorem p251_119 : pool (mcls 251) 119 = some (4, 190, 2) := by decide +kernel
theorem p251_67 : pool (mcls 251) 67 = some (4, 168, 0) := by decide +kernel
theorem p251_7 : pool (mcls 251) 7 = some (3, 12, 1) := by decide +kernel
theorem p251_41 : pool (mcls 251) 41 = some (3, 12, 18) := by decide +kernel
theorem p251_44 : pool (mcls 251) 44 = some (3, 12, 19) := by decide +kernel
theorem p252_57 : pool (mcls 252) 57 = some (1, 12, 0) := by decide +kernel
theorem p252_37 : pool (mcls 252) 37 = some (1, 12, 17) := by decide +kernel
theorem p253_7 : pool (mcls 253) 7 = some (3, 12, 1) := by decide +kernel
theorem p254_57 : pool (mcls 254) 57 = some (1, 12, 0) := by decide +kernel
theorem p254_123 : pool (mcls 254) 123 = some (4, 169, 1) := by decide +kernel
theorem p254_115 : pool (mcls 254) 115 = some (4, 165, 3) := by decide +kernel
theorem p254_210 : pool (mcls 254) 210 = some (4, 173, 1) := by decide +kernel
theorem p254_72 : pool (mcls 254) 72 = some (4, 170, 1) := by decide +kernel
theorem p254_96 : pool (mcls 254) 96 = some (4, 171, 1) := by decide +kernel
theorem p254_7 : pool (mcls 254) 7 = some (3, 12, 1) := by decide +kernel
theorem p254_306 : pool (mcls 254) 306 = some (4, 253, 1) := by decide +kernel
theorem p255_57 : pool (mcls 255) 57 = some (1, 12, 0) := by decide +kernel
theorem p255_123 : pool (mcls 255) 123 = some (4, 169, 1) := by decide +kernel
theorem p255_210 : pool (mcls 255) 210 = some (4, 173, 1) := by decide +kernel
theorem p255_7 : pool (mcls 255) 7 = some (3, 12, 1) := by decide +kernel
theorem p255_309 : cst (mcls 255) 309 = some (-100000000) := by decide +kernel
theorem p256_57 : pool (mcls 256) 57 = some (1, 12, 0) := by decide +kernel
theorem p256_207 : pool (mcls 256) 207 = some (4, 179, 1) := by decide +kernel
theorem p256_115 : pool (mcls 256) 115 = some (4, 165, 3) := by decide +kernel
theorem p256_86 : pool (mcls 256) 86 = some (4, 180, 1) := by decide +kernel
theorem p256_93 : pool (mcls 256) 93 = some (4, 181, 1) := by decide +kernel
theorem p256_133 : pool (mcls 256) 133 = some (4, 178, 2) := by decide +kernel
theorem p256_220 : pool (mcls 256) 220 = some (4, 182, 1) := by decide +kernel
theorem p256_7 : pool (mcls 256) 7 = some (3, 12, 1) := by decide +kernel
theorem p256_248 : pool (mcls 256) 248 = some (4, 230, 1) := by decide +kernel
theorem p256_251 : pool (mcls 256) 251 = some (4, 231, 1) := by decide +kernel
theorem p256_226 : pool (mcls 256) 226 = some (4, 184, 1) := by decide +kernel
theorem p257_57 : pool (mcls 257) 57 = some (1, 12, 0) := by decide +kernel
theorem p257_159 : pool (mcls 257) 159 = some (4, 205, 1) := by decide +kernel
theorem p257_139 : pool (mcls 257) 139 = some (4, 206, 1) := by decide +kernel
theorem p258_57 : pool (mcls 258) 57 = some (1, 12, 0) := by decide +kernel
theorem p258_186 : pool (mcls 258) 186 = some (4, 210, 0) := by decide +kernel
theorem p258_168 : pool (mcls 258) 168 = some (1, 12, 9) := by decide +kernel
theorem p258_115 : pool (mcls 258) 115 = some (4, 165, 3) := by decide +kernel
theorem p258_22 : pool (mcls 258) 22 = some (3, 12, 8) := by decide +kernel
theorem p259_57 : pool (mcls 259) 57 = some (1, 12, 0) := by decide +kernel
theorem p259_159 : pool (mcls 259) 159 = some (4, 205, 1) := by decide +kernel
theorem p259_171 : pool (mcls 259) 171 = some (4, 209, 1) := by decide +kernel
theorem p259_142 : pool (mcls 259) 142 = some (4, 198, 2) := by decide +kernel
theorem p260_57 : pool (mcls 260) 57 = some (1, 12, 0) := by decide +kernel
theorem p260_7 : pool (mcls 260) 7 = some (3, 12, 1) := by decide +kernel
theorem p260_115 : pool (mcls 260) 115 = some (4, 165, 3) := by decide +kernel
theorem p261_67 : pool (mcls 261) 67 = some (4, 168, 0) := by decide +kernel
theorem p261_210 : pool (mcls 261) 210 = some (4, 173, 1) := by decide +kernel
theorem p261_7 : pool (mcls 261) 7 = some (3, 12, 1) := by decide +kernel
theorem p262_67 : pool (mcls 262) 67 = some (4, 168, 0) := by decide +kernel
theorem p262_242 : pool (mcls 262) 242 = some (4, 229, 1) := by decide +kernel
theorem p262_7 : pool (mcls 262) 7 = some (3, 12, 1) := by decide +kernel
theorem p262_86 : pool (mcls 262) 86 = some (4, 180, 1) := by decide +kernel
theorem p262_93 : pool (mcls 262) 93 = some (4, 181, 1) := by decide +kernel
theorem p263_57 : pool (mcls 263) 57 = some (1, 12, 0) := by decide +kernel
theorem p263_254 : pool (mcls 263) 254 = some (4, 234, 1) := by decide +kernel
theorem p263_7 : pool (mcls 263) 7 = some (3, 12, 1) := by decide +kernel
theorem p263_310 : pool (mcls 263) 310 = some (4, 261, 1) := by decide +kernel
theorem p263_313 : pool (mcls 263) 313 = some (4, 262, 1) := by decide +kernel
theorem p264_57 : pool (mcls 264) 57 = some (1, 12, 0) := by decide +kernel
theorem p264_60 : pool (mcls 264) 60 = some (4, 166, 0) := by decide +kernel
theorem p264_115 : pool (mcls 264) 115 = some (4, 165, 3) := by decide +kernel
theorem p264_64 : pool (mcls 264) 64 = some (4, 167, 0) := by decide +kernel
theorem p264_89 : pool (mcls 264) 89 = some (4, 172, 1) := by decide +kernel
theorem p264_133 : pool (mcls 264) 133 = some (4, 178, 2) := by decide +kernel
theorem p265_57 : pool (mcls 265) 57 = some (1, 12, 0) := by decide +kernel
theorem p265_254 : pool (mcls 265) 254 = some (4, 234, 1) := by decide +kernel
theorem p265_316 : csl (mcls 265) 316 = some (-1000000000000) := by decide +kernel
theorem p265_67 : pool (mcls 265) 67 = some (4, 168, 0) := by decide +kernel
theorem p265_210 : pool (mcls 265) 210 = some (4, 173, 1) := by decide +kernel
theorem p265_7 : pool (mcls 265) 7 = some (3, 12, 1) := by decide +kernel
theorem p266_57 : pool (mcls 266) 57 = some (1, 12, 0) := by decide +kernel
theorem p266_318 : csl (mcls 266) 318 = some (-1) := by decide +kernel
theorem p266_67 : pool (mcls 266) 67 = some (4, 168, 0) := by decide +kernel
theorem p266_210 : pool (mcls 266) 210 = some (4, 173, 1) := by decide +kernel
theorem p266_7 : pool (mcls 266) 7 = some (3, 12, 1) := by decide +kernel
theorem p266_320 : csl (mcls 266) 320 = some (3037000499) := by decide +kernel
theorem p266_324 : csl (mcls 266) 324 = some (9223372036854775807) := by decide +kernel
theorem p267_67 : pool (mcls 267) 67 = some (4, 168, 0) := by decide +kernel
theorem p267_210 : pool (mcls 267) 210 = some (4, 173, 1) := by decide +kernel
theorem p267_7 : pool (mcls 267) 7 = some (3, 12, 1) := by decide +kernel
theorem p268_57 : pool (mcls 268) 57 = some (1, 12, 0) := by decide +kernel
theorem p268_115 : pool (mcls 268) 115 = some (4, 165, 3) := by decide +kernel
theorem p268_309 : cst (mcls 268) 309 = some (-100000000) := by decide +kernel
theorem p268_326 : pool (mcls 268) 326 = some (4, 267, 1) := by decide +kernel
theorem p268_7 : pool (mcls 268) 7 = some (3, 12, 1) := by decide +kernel
theorem p269_57 : pool (mcls 269) 57 = some (1, 12, 0) := by decide +kernel
theorem p269_67 : pool (mcls 269) 67 = some (4, 168, 0) := by decide +kernel
theorem p269_210 : pool (mcls 269) 210 = some (4, 173, 1) := by decide +kernel
theorem p269_7 : pool (mcls 269) 7 = some (3, 12, 1) := by decide +kernel
theorem p269_115 : pool (mcls 269) 115 = some (4, 165, 3) := by decide +kernel
theorem p270_210 : pool (mcls 270) 210 = some (4, 173, 1) := by decide +kernel
theorem p270_7 : pool (mcls 270) 7 = some (3, 12, 1) := by decide +kernel
theorem p271_67 : pool (mcls 271) 67 = some (4, 168, 0) := by decide +kernel
theorem p271_48 : pool (mcls 271) 48 = some (3, 12, 22) := by decide +kernel
theorem p271_242 : pool (mcls 271) 242 = some (4, 229, 1) := by decide +kernel
theorem p271_86 : pool (mcls 271) 86 = some (4, 180, 1) := by decide +kernel
theorem p271_330 : pool (mcls 271) 330 = some (4, 270, 2) := by decide +kernel
theorem p271_93 : pool (mcls 271) 93 = some (4, 181, 1) := by decide +kernel
theorem p272_67 : pool (mcls 272) 67 = some (4, 168, 0) := by decide +kernel
theorem p272_330 : pool (mcls 272) 330 = some (4, 270, 2) := by decide +kernel
theorem p272_48 : pool (mcls 272) 48 = some (3, 12, 22) := by decide +kernel
theorem p273_57 : pool (mcls 273) 57 = some (1, 12, 0) := by decide +kernel
theorem p273_115 : pool (mcls 273) 115 = some (4, 165, 3) := by decide +kernel
theorem p273_333 : pool (mcls 273) 333 = some (4, 271, 1) := by decide +kernel
theorem p273_67 : pool (mcls 273) 67 = some (4, 168, 0) := by decide +kernel
theorem p273_330 : pool (mcls 273) 330 = some (4, 270, 2) := by decide +kernel
theorem p273_48 : pool (mcls 273) 48 = some (3, 12, 22) := by decide +kernel
theorem p273_336 : pool (mcls 273) 336 = some (4, 272, 2) := by decide +kernel
theorem p274_210 : pool (mcls 274) 210 = some (4, 173, 1) := by decide +kernel
theorem p274_129 : pool (mcls 274) 129 = some (4, 195, 2) := by decide +kernel
theorem p274_89 : pool (mcls 274) 89 = some (4, 172, 1) := by decide +kernel
theorem p274_7 : pool (mcls 274) 7 = some (3, 12, 1) := by decide +kernel
theorem p275_57 : pool (mcls 275) 57 = some (1, 12, 0) := by decide +kernel
theorem p275_67 : pool (mcls 275) 67 = some (4, 168, 0) := by decide +kernel
theorem p275_339 : pool (mcls 275) 339 = some (4, 274, 1) := by decide +kernel
theorem p276_57 : pool (mcls 276) 57 = some (1, 12, 0) := by decide +kernel
theorem p276_123 : pool (mcls 276) 123 = some (4, 169, 1) := by decide +kernel
theorem p276_210 : pool (mcls 276) 210 = some (4, 173, 1) := by decide +kernel
theorem p276_7 : pool (mcls 276) 7 = some (3, 12, 1) := by decide +kernel
theorem p277_108 : pool (mcls 277) 108 = some (4, 187, 0) := by decide +kernel
theorem p277_232 : pool (mcls 277) 232 = some (4, 222, 0) := by decide +kernel
theorem p277_235 : pool (mcls 277) 235 = some (4, 225, 0) := by decide +kernel
theorem p278_67 : pool (mcls 278) 67 = some (4, 168, 0) := by decide +kernel
theorem p278_7 : pool (mcls 278) 7 = some (3, 12, 1) := by decide +kernel
theorem p279_57 : pool (mcls 279) 57 = some (1, 12, 0) := by decide +kernel
theorem p279_201 : pool (mcls 279) 201 = some (4, 219, 1) := by decide +kernel
theorem p279_115 : pool (mcls 279) 115 = some (4, 165, 3) := by decide +kernel
theorem p279_13 : pool (mcls 279) 13 = some (3, 12, 2) := by decide +kernel
theorem p279_7 : pool (mcls 279) 7 = some (3, 12, 1) := by decide +kernel
theorem p279_204 : pool (mcls 279) 204 = some (4, 218, 1) := by decide +kernel
theorem p279_342 : pool (mcls 279) 342 = some (4, 277, 0) := by decide +kernel
theorem p279_239 : pool (mcls 279) 239 = some (4, 232, 0) := by decide +kernel
theorem p279_345 : pool (mcls 279) 345 = some (4, 233, 0) := by decide +kernel
theorem p279_348 : pool (mcls 279) 348 = some (4, 278, 1) := by decide +kernel
theorem p280_57 : pool (mcls 280) 57 = some (1, 12, 0) := by decide +kernel
theorem p280_207 : pool (mcls 280) 207 = some (4, 179, 1) := by decide +kernel
theorem p280_13 : pool (mcls 280) 13 = some (3, 12, 2) := by decide +kernel
theorem p280_7 : pool (mcls 280) 7 = some (3, 12, 1) := by decide +kernel
theorem p280_342 : pool (mcls 280) 342 = some (4, 277, 0) := by decide +kernel
theorem p281_57 : pool (mcls 281) 57 = some (1, 12, 0) := by decide +kernel
theorem p281_99 : pool (mcls 281) 99 = some (1, 12, 5) := by decide +kernel
theorem p281_115 : pool (mcls 281) 115 = some (4, 165, 3) := by decide +kernel
theorem p281_309 : cst (mcls 281) 309 = some (-100000000) := by decide +kernel
theorem p281_16 : pool (mcls 281) 16 = some (3, 12, 4) := by decide +kernel
theorem p282_57 : pool (mcls 282) 57 = some (1, 12, 0) := by decide +kernel
theorem p282_352 : pool (mcls 282) 352 = some (2, 12, 23) := by decide +kernel
theorem p282_51 : pool (mcls 282) 51 = some (3, 12, 24) := by decide +kernel
theorem p282_7 : pool (mcls 282) 7 = some (3, 12, 1) := by decide +kernel
theorem p282_54 : pool (mcls 282) 54 = some (3, 12, 25) := by decide +kernel
theorem p282_16 : pool (mcls 282) 16 = some (3, 12, 4) := by decide +kernel
theorem p282_99 : pool (mcls 282) 99 = some (1, 12, 5) := by decide +kernel
theorem p282_356 : pool (mcls 282) 356 = some (1, 12, 26) := by decide +kernel
theorem p282_152 : pool (mcls 282) 152 = some (1, 12, 3) := by decide +kernel
theorem p282_359 : pool (mcls 282) 359 = some (1, 12, 27) := by decide +kernel
theorem p282_102 : pool (mcls 282) 102 = some (1, 12, 7) := by decide +kernel
theorem p283_7 : pool (mcls 283) 7 = some (3, 12, 1) := by decide +kernel
theorem p284_67 : pool (mcls 284) 67 = some (4, 168, 0) := by decide +kernel
theorem p284_139 : pool (mcls 284) 139 = some (4, 206, 1) := by decide +kernel
theorem p285_67 : pool (mcls 285) 67 = some (4, 168, 0) := by decide +kernel
theorem p285_207 : pool (mcls 285) 207 = some (4, 179, 1) := by decide +kernel
theorem p285_223 : pool (mcls 285) 223 = some (4, 183, 1) := by decide +kernel
theorem p286_67 : pool (mcls 286) 67 = some (4, 168, 0) := by decide +kernel
theorem p286_210 : pool (mcls 286) 210 = some (4, 173, 1) := by decide +kernel
theorem p287_57 : pool (mcls 287) 57 = some (1, 12, 0) := by decide +kernel
theorem p287_186 : pool (mcls 287) 186 = some (4, 210, 0) := by decide +kernel
theorem p287_60 : pool (mcls 287) 60 = some (4, 166, 0) := by decide +kernel
theorem p287_64 : pool (mcls 287) 64 = some (4, 167, 0) := by decide +kernel
theorem p287_67 : pool (mcls 287) 67 = some (4, 168, 0) := by decide +kernel
theorem p287_362 : pool (mcls 287) 362 = some (4, 283, 2) := by decide +kernel
theorem p287_168 : pool (mcls 287) 168 = some (1, 12, 9) := by decide +kernel
theorem p287_365 : pool (mcls 287) 365 = some (4, 284, 0) := by decide +kernel
theorem p287_368 : pool (mcls 287) 368 = some (4, 285, 0) := by decide +kernel
theorem p287_371 : pool (mcls 287) 371 = some (4, 286, 0) := by decide +kernel
theorem p287_7 : pool (mcls 287) 7 = some (3, 12, 1) := by decide +kernel
theorem p287_239 : pool (mcls 287) 239 = some (4, 232, 0) := by decide +kernel
theorem p287_345 : pool (mcls 287) 345 = some (4, 233, 0) := by decide +kernel
theorem p287_152 : pool (mcls 287) 152 = some (1, 12, 3) := by decide +kernel
theorem p287_102 : pool (mcls 287) 102 = some (1, 12, 7) := by decide +kernel
theorem p287_288 : pool (mcls 287) 288 = some (1, 12, 16) := by decide +kernel
theorem p287_99 : pool (mcls 287) 99 = some (1, 12, 5) := by decide +kernel
theorem p287_309 : cst (mcls 287) 309 = some (-100000000) := by decide +kernel
theorem p294_13 : pool (mcls 294) 13 = some (4, 292, 3) := by decide +kernel
theorem p295_7 : pool (mcls 295) 7 = some (5, 11, 14) := by decide +kernel
theorem p295_9 : pool (mcls 295) 9 = some (4, 117, 0) := by decide +kernel
theorem p295_10 : pool (mcls 295) 10 = some (5, 12, 28) := by decide +kernel
theorem p295_12 : pool (mcls 295) 12 = some (4, 164, 0) := by decide +kernel
theorem p295_13 : pool (mcls 295) 13 = some (4, 118, 2) := by decide +kernel
theorem p295_17 : pool (mcls 295) 17 = some (4, 191, 2) := by decide +kernel
theorem p295_18 : pool (mcls 295) 18 = some (4, 119, 2) := by decide +kernel
theorem p295_22 : pool (mcls 295) 22 = some (4, 192, 2) := by decide +kernel
theorem p295_23 : pool (mcls 295) 23 = some (4, 120, 2) := by decide +kernel
theorem p295_27 : pool (mcls 295) 27 = some (4, 193, 2) := by decide +kernel
theorem p295_28 : pool (mcls 295) 28 = some (4, 121, 2) := by decide +kernel
theorem p295_31 : pool (mcls 295) 31 = some (4, 194, 2) := by decide +kernel
theorem p295_32 : pool (mcls 295) 32 = some (4, 122, 1) := by decide +kernel
theorem p295_36 : pool (mcls 295) 36 = some (4, 200, 1) := by decide +kernel
theorem p295_37 : pool (mcls 295) 37 = some (4, 123, 2) := by decide +kernel
theorem p295_40 : pool (mcls 295) 40 = some (4, 201, 2) := by decide +kernel
theorem p295_41 : pool (mcls 295) 41 = some (4, 124, 1) := by decide +kernel
theorem p295_45 : pool (mcls 295) 45 = some (4, 203, 1) := by decide +kernel
theorem p295_46 : pool (mcls 295) 46 = some (4, 125, 1) := by decide +kernel
theorem p295_49 : pool (mcls 295) 49 = some (4, 204, 1) := by decide +kernel
theorem p295_50 : pool (mcls 295) 50 = some (4, 126, 1) := by decide +kernel
theorem p295_53 : pool (mcls 295) 53 = some (4, 220, 1) := by decide +kernel
theorem p295_54 : pool (mcls 295) 54 = some (4, 127, 2) := by decide +kernel
theorem p295_57 : pool (mcls 295) 57 = some (4, 221, 2) := by decide +kernel
theorem p295_58 : pool (mcls 295) 58 = some (4, 128, 0) := by decide +kernel
theorem p295_62 : pool (mcls 295) 62 = some (4, 226, 0) := by decide +kernel
theorem p295_63 : pool (mcls 295) 63 = some (4, 129, 1) := by decide +kernel
theorem p295_66 : pool (mcls 295) 66 = some (4, 227, 1) := by decide +kernel
theorem p295_67 : pool (mcls 295) 67 = some (4, 130, 2) := by decide +kernel
theorem p295_70 : pool (mcls 295) 70 = some (4, 237, 2) := by decide +kernel
theorem p295_71 : pool (mcls 295) 71 = some (4, 131, 0) := by decide +kernel
theorem p295_74 : pool (mcls 295) 74 = some (4, 245, 0) := by decide +kernel
theorem p295_75 : pool (mcls 295) 75 = some (4, 132, 5) := by decide +kernel
theorem p295_79 : pool (mcls 295) 79 = some (4, 247, 5) := by decide +kernel
theorem p295_80 : pool (mcls 295) 80 = some (4, 133, 1) := by decide +kernel
theorem p295_83 : pool (mcls 295) 83 = some (4, 248, 1) := by decide +kernel
theorem p295_84 : pool (mcls 295) 84 = some (4, 134, 0) := by decide +kernel
theorem p295_87 : pool (mcls 295) 87 = some (4, 251, 0) := by decide +kernel
theorem p295_88 : pool (mcls 295) 88 = some (4, 135, 0) := by decide +kernel
theorem p295_91 : pool (mcls 295) 91 = some (4, 252, 0) := by decide +kernel
theorem p295_92 : pool (mcls 295) 92 = some (4, 136, 2) := by decide +kernel
theorem p295_95 : pool (mcls 295) 95 = some (4, 254, 2) := by decide +kernel
theorem p295_96 : pool (mcls 295) 96 = some (4, 137, 1) := by decide +kernel
theorem p295_99 : pool (mcls 295) 99 = some (4, 255, 1) := by decide +kernel
theorem p295_100 : pool (mcls 295) 100 = some (4, 138, 2) := by decide +kernel
theorem p295_103 : pool (mcls 295) 103 = some (4, 256, 2) := by decide +kernel
theorem p295_104 : pool (mcls 295) 104 = some (4, 139, 1) := by decide +kernel
theorem p295_107 : pool (mcls 295) 107 = some (4, 257, 1) := by decide +kernel
theorem p295_108 : pool (mcls 295) 108 = some (4, 140, 1) := by decide +kernel
theorem p295_111 : pool (mcls 295) 111 = some (4, 258, 1) := by decide +kernel
theorem p295_112 : pool (mcls 295) 112 = some (4, 141, 2) := by decide +kernel
theorem p295_115 : pool (mcls 295) 115 = some (4, 259, 2) := by decide +kernel
theorem p295_116 : pool (mcls 295) 116 = some (4, 142, 2) := by decide +kernel
theorem p295_119 : pool (mcls 295) 119 = some (4, 260, 2) := by decide +kernel
theorem p295_120 : pool (mcls 295) 120 = some (4, 144, 2) := by decide +kernel
theorem p295_123 : pool (mcls 295) 123 = some (4, 263, 2) := by decide +kernel
theorem p295_124 : pool (mcls 295) 124 = some (4, 145, 3) := by decide +kernel
theorem p295_128 : pool (mcls 295) 128 = some (4, 242, 3) := by decide +kernel
theorem p295_129 : pool (mcls 295) 129 = some (4, 143, 4) := by decide +kernel
theorem p295_133 : pool (mcls 295) 133 = some (4, 264, 4) := by decide +kernel
theorem p295_134 : pool (mcls 295) 134 = some (4, 146, 1) := by decide +kernel
theorem p295_138 : pool (mcls 295) 138 = some (4, 265, 1) := by decide +kernel
theorem p295_139 : csl (mcls 295) 139 = some (4294967295) := by decide +kernel
theorem p295_141 : pool (mcls 295) 141 = some (4, 147, 2) := by decide +kernel
theorem p295_145 : pool (mcls 295) 145 = some (4, 266, 2) := by decide +kernel
theorem p295_146 : pool (mcls 295) 146 = some (4, 148, 1) := by decide +kernel
theorem p295_149 : pool (mcls 295) 149 = some (4, 268, 1) := by decide +kernel
theorem p295_150 : pool (mcls 295) 150 = some (4, 149, 2) := by decide +kernel
theorem p295_153 : pool (mcls 295) 153 = some (4, 269, 2) := by decide +kernel
theorem p295_154 : pool (mcls 295) 154 = some (4, 150, 2) := by decide +kernel
theorem p295_157 : pool (mcls 295) 157 = some (4, 273, 2) := by decide +kernel
theorem p295_158 : pool (mcls 295) 158 = some (4, 151, 1) := by decide +kernel
theorem p295_161 : pool (mcls 295) 161 = some (4, 275, 1) := by decide +kernel
theorem p295_162 : pool (mcls 295) 162 = some (4, 152, 2) := by decide +kernel
theorem p295_165 : pool (mcls 295) 165 = some (4, 276, 2) := by decide +kernel
theorem p295_166 : pool (mcls 295) 166 = some (4, 153, 2) := by decide +kernel
theorem p295_169 : pool (mcls 295) 169 = some (4, 279, 2) := by decide +kernel
theorem p295_170 : pool (mcls 295) 170 = some (4, 154, 1) := by decide +kernel
theorem p295_173 : pool (mcls 295) 173 = some (4, 280, 1) := by decide +kernel
theorem p295_174 : pool (mcls 295) 174 = some (4, 155, 0) := by decide +kernel
theorem p295_177 : pool (mcls 295) 177 = some (4, 189, 0) := by decide +kernel
theorem p295_178 : pool (mcls 295) 178 = some (4, 156, 2) := by decide +kernel
theorem p295_181 : pool (mcls 295) 181 = some (4, 281, 2) := by decide +kernel
theorem p295_182 : pool (mcls 295) 182 = some (4, 157, 1) := by decide +kernel
theorem p295_186 : pool (mcls 295) 186 = some (4, 282, 1) := by decide +kernel
theorem p295_187 : pool (mcls 295) 187 = some (4, 158, 1) := by decide +kernel
theorem p295_190 : pool (mcls 295) 190 = some (4, 287, 1) := by decide +kernel
