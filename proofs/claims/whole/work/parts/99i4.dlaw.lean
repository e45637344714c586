/-! ===== the law's instructions (4) ===== -/
theorem d_law_922 : decode code 922 = .ok (.ireturn, 1) := by decide +kernel
theorem d_law_923 : decode code 923 = .ok (.aload_n 1, 1) := by decide +kernel
theorem d_law_924 : decode code 924 = .ok (.invokevirtual 125, 3) := by decide +kernel
theorem d_law_927 : decode code 927 = .ok (.aload_n 2, 1) := by decide +kernel
theorem d_law_928 : decode code 928 = .ok (.invokevirtual 128, 3) := by decide +kernel
theorem d_law_931 : decode code 931 = .ok (.if_icmp .eq 235, 3) := by decide +kernel
theorem d_law_934 : decode code 934 = .ok (.iconst 0, 1) := by decide +kernel
theorem d_law_935 : decode code 935 = .ok (.ireturn, 1) := by decide +kernel
theorem d_law_936 : decode code 936 = .ok (.aload_n 1, 1) := by decide +kernel
theorem d_law_937 : decode code 937 = .ok (.aload_n 0, 1) := by decide +kernel
theorem d_law_938 : decode code 938 = .ok (.iload_n 3, 1) := by decide +kernel
theorem d_law_939 : decode code 939 = .ok (.iconst 1, 1) := by decide +kernel
theorem d_law_940 : decode code 940 = .ok (.iadd, 1) := by decide +kernel
theorem d_law_941 : decode code 941 = .ok (.iaload, 1) := by decide +kernel
theorem d_law_942 : decode code 942 = .ok (.aload_n 0, 1) := by decide +kernel
theorem d_law_943 : decode code 943 = .ok (.iload_n 3, 1) := by decide +kernel
theorem d_law_944 : decode code 944 = .ok (.iconst 2, 1) := by decide +kernel
theorem d_law_945 : decode code 945 = .ok (.iadd, 1) := by decide +kernel
theorem d_law_946 : decode code 946 = .ok (.iaload, 1) := by decide +kernel
theorem d_law_947 : decode code 947 = .ok (.aload_n 0, 1) := by decide +kernel
theorem d_law_948 : decode code 948 = .ok (.iload_n 3, 1) := by decide +kernel
theorem d_law_949 : decode code 949 = .ok (.iconst 3, 1) := by decide +kernel
theorem d_law_950 : decode code 950 = .ok (.iadd, 1) := by decide +kernel
theorem d_law_951 : decode code 951 = .ok (.iaload, 1) := by decide +kernel
theorem d_law_952 : decode code 952 = .ok (.aload_n 0, 1) := by decide +kernel
theorem d_law_953 : decode code 953 = .ok (.iload_n 3, 1) := by decide +kernel
theorem d_law_954 : decode code 954 = .ok (.iconst 4, 1) := by decide +kernel
theorem d_law_955 : decode code 955 = .ok (.iadd, 1) := by decide +kernel
theorem d_law_956 : decode code 956 = .ok (.iaload, 1) := by decide +kernel
theorem d_law_957 : decode code 957 = .ok (.ifCond .eq 7, 3) := by decide +kernel
theorem d_law_960 : decode code 960 = .ok (.iconst 1, 1) := by decide +kernel
theorem d_law_961 : decode code 961 = .ok (.goto 4, 3) := by decide +kernel
theorem d_law_964 : decode code 964 = .ok (.iconst 0, 1) := by decide +kernel
theorem d_law_965 : decode code 965 = .ok (.invokevirtual 129, 3) := by decide +kernel
theorem d_law_968 : decode code 968 = .ok (.aload_n 2, 1) := by decide +kernel
theorem d_law_969 : decode code 969 = .ok (.aload_n 0, 1) := by decide +kernel
theorem d_law_970 : decode code 970 = .ok (.iload_n 3, 1) := by decide +kernel
theorem d_law_971 : decode code 971 = .ok (.iconst 1, 1) := by decide +kernel
theorem d_law_972 : decode code 972 = .ok (.iadd, 1) := by decide +kernel
theorem d_law_973 : decode code 973 = .ok (.iaload, 1) := by decide +kernel
theorem d_law_974 : decode code 974 = .ok (.aload_n 0, 1) := by decide +kernel
theorem d_law_975 : decode code 975 = .ok (.iload_n 3, 1) := by decide +kernel
theorem d_law_976 : decode code 976 = .ok (.iconst 2, 1) := by decide +kernel
theorem d_law_977 : decode code 977 = .ok (.iadd, 1) := by decide +kernel
theorem d_law_978 : decode code 978 = .ok (.iaload, 1) := by decide +kernel
theorem d_law_979 : decode code 979 = .ok (.aload_n 0, 1) := by decide +kernel
theorem d_law_980 : decode code 980 = .ok (.iload_n 3, 1) := by decide +kernel
theorem d_law_981 : decode code 981 = .ok (.iconst 3, 1) := by decide +kernel
theorem d_law_982 : decode code 982 = .ok (.iadd, 1) := by decide +kernel
theorem d_law_983 : decode code 983 = .ok (.iaload, 1) := by decide +kernel
theorem d_law_984 : decode code 984 = .ok (.aload_n 0, 1) := by decide +kernel
theorem d_law_985 : decode code 985 = .ok (.iload_n 3, 1) := by decide +kernel
theorem d_law_986 : decode code 986 = .ok (.iconst 4, 1) := by decide +kernel
theorem d_law_987 : decode code 987 = .ok (.iadd, 1) := by decide +kernel
theorem d_law_988 : decode code 988 = .ok (.iaload, 1) := by decide +kernel
theorem d_law_989 : decode code 989 = .ok (.ifCond .eq 7, 3) := by decide +kernel
theorem d_law_992 : decode code 992 = .ok (.iconst 1, 1) := by decide +kernel
theorem d_law_993 : decode code 993 = .ok (.goto 4, 3) := by decide +kernel
theorem d_law_996 : decode code 996 = .ok (.iconst 0, 1) := by decide +kernel
theorem d_law_997 : decode code 997 = .ok (.invokevirtual 133, 3) := by decide +kernel
theorem d_law_1000 : decode code 1000 = .ok (.if_icmp .eq 166, 3) := by decide +kernel
theorem d_law_1003 : decode code 1003 = .ok (.iconst 0, 1) := by decide +kernel
theorem d_law_1004 : decode code 1004 = .ok (.ireturn, 1) := by decide +kernel
theorem d_law_1005 : decode code 1005 = .ok (.aload_n 1, 1) := by decide +kernel
theorem d_law_1006 : decode code 1006 = .ok (.invokevirtual 134, 3) := by decide +kernel
theorem d_law_1009 : decode code 1009 = .ok (.aload_n 2, 1) := by decide +kernel
theorem d_law_1010 : decode code 1010 = .ok (.invokevirtual 137, 3) := by decide +kernel
theorem d_law_1013 : decode code 1013 = .ok (.if_icmp .eq 153, 3) := by decide +kernel
theorem d_law_1016 : decode code 1016 = .ok (.iconst 0, 1) := by decide +kernel
theorem d_law_1017 : decode code 1017 = .ok (.ireturn, 1) := by decide +kernel
theorem d_law_1018 : decode code 1018 = .ok (.aload_n 1, 1) := by decide +kernel
theorem d_law_1019 : decode code 1019 = .ok (.aload_n 0, 1) := by decide +kernel
theorem d_law_1020 : decode code 1020 = .ok (.iload_n 3, 1) := by decide +kernel
theorem d_law_1021 : decode code 1021 = .ok (.iconst 1, 1) := by decide +kernel
theorem d_law_1022 : decode code 1022 = .ok (.iadd, 1) := by decide +kernel
theorem d_law_1023 : decode code 1023 = .ok (.iaload, 1) := by decide +kernel
theorem d_law_1024 : decode code 1024 = .ok (.aload_n 0, 1) := by decide +kernel
theorem d_law_1025 : decode code 1025 = .ok (.iload_n 3, 1) := by decide +kernel
theorem d_law_1026 : decode code 1026 = .ok (.iconst 2, 1) := by decide +kernel
theorem d_law_1027 : decode code 1027 = .ok (.iadd, 1) := by decide +kernel
theorem d_law_1028 : decode code 1028 = .ok (.iaload, 1) := by decide +kernel
theorem d_law_1029 : decode code 1029 = .ok (.aload_n 0, 1) := by decide +kernel
theorem d_law_1030 : decode code 1030 = .ok (.iload_n 3, 1) := by decide +kernel
theorem d_law_1031 : decode code 1031 = .ok (.iconst 3, 1) := by decide +kernel
theorem d_law_1032 : decode code 1032 = .ok (.iadd, 1) := by decide +kernel
theorem d_law_1033 : decode code 1033 = .ok (.iaload, 1) := by decide +kernel
theorem d_law_1034 : decode code 1034 = .ok (.invokevirtual 138, 3) := by decide +kernel
theorem d_law_1037 : decode code 1037 = .ok (.aload_n 2, 1) := by decide +kernel
theorem d_law_1038 : decode code 1038 = .ok (.aload_n 0, 1) := by decide +kernel
theorem d_law_1039 : decode code 1039 = .ok (.iload_n 3, 1) := by decide +kernel
theorem d_law_1040 : decode code 1040 = .ok (.iconst 1, 1) := by decide +kernel
theorem d_law_1041 : decode code 1041 = .ok (.iadd, 1) := by decide +kernel
theorem d_law_1042 : decode code 1042 = .ok (.iaload, 1) := by decide +kernel
theorem d_law_1043 : decode code 1043 = .ok (.aload_n 0, 1) := by decide +kernel
theorem d_law_1044 : decode code 1044 = .ok (.iload_n 3, 1) := by decide +kernel
theorem d_law_1045 : decode code 1045 = .ok (.iconst 2, 1) := by decide +kernel
theorem d_law_1046 : decode code 1046 = .ok (.iadd, 1) := by decide +kernel
theorem d_law_1047 : decode code 1047 = .ok (.iaload, 1) := by decide +kernel
theorem d_law_1048 : decode code 1048 = .ok (.aload_n 0, 1) := by decide +kernel
theorem d_law_1049 : decode code 1049 = .ok (.iload_n 3, 1) := by decide +kernel
theorem d_law_1050 : decode code 1050 = .ok (.iconst 3, 1) := by decide +kernel
theorem d_law_1051 : decode code 1051 = .ok (.iadd, 1) := by decide +kernel
theorem d_law_1052 : decode code 1052 = .ok (.iaload, 1) := by decide +kernel
theorem d_law_1053 : decode code 1053 = .ok (.invokevirtual 141, 3) := by decide +kernel
theorem d_law_1056 : decode code 1056 = .ok (.if_icmp .eq 110, 3) := by decide +kernel
theorem d_law_1059 : decode code 1059 = .ok (.iconst 0, 1) := by decide +kernel
theorem d_law_1060 : decode code 1060 = .ok (.ireturn, 1) := by decide +kernel
theorem d_law_1061 : decode code 1061 = .ok (.aload_n 1, 1) := by decide +kernel
theorem d_law_1062 : decode code 1062 = .ok (.aload_n 0, 1) := by decide +kernel
theorem d_law_1063 : decode code 1063 = .ok (.iload_n 3, 1) := by decide +kernel
theorem d_law_1064 : decode code 1064 = .ok (.iconst 1, 1) := by decide +kernel
theorem d_law_1065 : decode code 1065 = .ok (.iadd, 1) := by decide +kernel
theorem d_law_1066 : decode code 1066 = .ok (.iaload, 1) := by decide +kernel
theorem d_law_1067 : decode code 1067 = .ok (.invokevirtual 142, 3) := by decide +kernel
theorem d_law_1070 : decode code 1070 = .ok (.aload_n 2, 1) := by decide +kernel
theorem d_law_1071 : decode code 1071 = .ok (.aload_n 0, 1) := by decide +kernel
theorem d_law_1072 : decode code 1072 = .ok (.iload_n 3, 1) := by decide +kernel
theorem d_law_1073 : decode code 1073 = .ok (.iconst 1, 1) := by decide +kernel
theorem d_law_1074 : decode code 1074 = .ok (.iadd, 1) := by decide +kernel
theorem d_law_1075 : decode code 1075 = .ok (.iaload, 1) := by decide +kernel
theorem d_law_1076 : decode code 1076 = .ok (.invokevirtual 145, 3) := by decide +kernel
theorem d_law_1079 : decode code 1079 = .ok (.if_icmp .eq 87, 3) := by decide +kernel
theorem d_law_1082 : decode code 1082 = .ok (.iconst 0, 1) := by decide +kernel
theorem d_law_1083 : decode code 1083 = .ok (.ireturn, 1) := by decide +kernel
theorem d_law_1084 : decode code 1084 = .ok (.aload_n 1, 1) := by decide +kernel
theorem d_law_1085 : decode code 1085 = .ok (.aload_n 0, 1) := by decide +kernel
theorem d_law_1086 : decode code 1086 = .ok (.iload_n 3, 1) := by decide +kernel
theorem d_law_1087 : decode code 1087 = .ok (.iconst 1, 1) := by decide +kernel
theorem d_law_1088 : decode code 1088 = .ok (.iadd, 1) := by decide +kernel
theorem d_law_1089 : decode code 1089 = .ok (.iaload, 1) := by decide +kernel
theorem d_law_1090 : decode code 1090 = .ok (.aload_n 0, 1) := by decide +kernel
theorem d_law_1091 : decode code 1091 = .ok (.iload_n 3, 1) := by decide +kernel
theorem d_law_1092 : decode code 1092 = .ok (.iconst 2, 1) := by decide +kernel
theorem d_law_1093 : decode code 1093 = .ok (.iadd, 1) := by decide +kernel
theorem d_law_1094 : decode code 1094 = .ok (.iaload, 1) := by decide +kernel
theorem d_law_1095 : decode code 1095 = .ok (.invokevirtual 146, 3) := by decide +kernel
theorem d_law_1098 : decode code 1098 = .ok (.aload_n 2, 1) := by decide +kernel
theorem d_law_1099 : decode code 1099 = .ok (.aload_n 0, 1) := by decide +kernel
theorem d_law_1100 : decode code 1100 = .ok (.iload_n 3, 1) := by decide +kernel
theorem d_law_1101 : decode code 1101 = .ok (.iconst 1, 1) := by decide +kernel
theorem d_law_1102 : decode code 1102 = .ok (.iadd, 1) := by decide +kernel
theorem d_law_1103 : decode code 1103 = .ok (.iaload, 1) := by decide +kernel
theorem d_law_1104 : decode code 1104 = .ok (.aload_n 0, 1) := by decide +kernel
theorem d_law_1105 : decode code 1105 = .ok (.iload_n 3, 1) := by decide +kernel
theorem d_law_1106 : decode code 1106 = .ok (.iconst 2, 1) := by decide +kernel
theorem d_law_1107 : decode code 1107 = .ok (.iadd, 1) := by decide +kernel
theorem d_law_1108 : decode code 1108 = .ok (.iaload, 1) := by decide +kernel
theorem d_law_1109 : decode code 1109 = .ok (.invokevirtual 149, 3) := by decide +kernel
theorem d_law_1112 : decode code 1112 = .ok (.if_icmp .eq 54, 3) := by decide +kernel
theorem d_law_1115 : decode code 1115 = .ok (.iconst 0, 1) := by decide +kernel
theorem d_law_1116 : decode code 1116 = .ok (.ireturn, 1) := by decide +kernel
theorem d_law_1117 : decode code 1117 = .ok (.aload_n 1, 1) := by decide +kernel
theorem d_law_1118 : decode code 1118 = .ok (.invokevirtual 150, 3) := by decide +kernel
theorem d_law_1121 : decode code 1121 = .ok (.aload_n 2, 1) := by decide +kernel
theorem d_law_1122 : decode code 1122 = .ok (.invokevirtual 153, 3) := by decide +kernel
theorem d_law_1125 : decode code 1125 = .ok (.if_icmp .eq 41, 3) := by decide +kernel
theorem d_law_1128 : decode code 1128 = .ok (.iconst 0, 1) := by decide +kernel
theorem d_law_1129 : decode code 1129 = .ok (.ireturn, 1) := by decide +kernel
theorem d_law_1130 : decode code 1130 = .ok (.aload_n 1, 1) := by decide +kernel
theorem d_law_1131 : decode code 1131 = .ok (.invokevirtual 154, 3) := by decide +kernel
theorem d_law_1134 : decode code 1134 = .ok (.aload_n 2, 1) := by decide +kernel
theorem d_law_1135 : decode code 1135 = .ok (.invokevirtual 157, 3) := by decide +kernel
theorem d_law_1138 : decode code 1138 = .ok (.if_icmp .eq 28, 3) := by decide +kernel
theorem d_law_1141 : decode code 1141 = .ok (.iconst 0, 1) := by decide +kernel
theorem d_law_1142 : decode code 1142 = .ok (.ireturn, 1) := by decide +kernel
theorem d_law_1143 : decode code 1143 = .ok (.aload_n 1, 1) := by decide +kernel
theorem d_law_1144 : decode code 1144 = .ok (.aload_n 0, 1) := by decide +kernel
theorem d_law_1145 : decode code 1145 = .ok (.iload_n 3, 1) := by decide +kernel
theorem d_law_1146 : decode code 1146 = .ok (.iconst 1, 1) := by decide +kernel
theorem d_law_1147 : decode code 1147 = .ok (.iadd, 1) := by decide +kernel
theorem d_law_1148 : decode code 1148 = .ok (.iaload, 1) := by decide +kernel
theorem d_law_1149 : decode code 1149 = .ok (.invokevirtual 158, 3) := by decide +kernel
theorem d_law_1152 : decode code 1152 = .ok (.aload_n 2, 1) := by decide +kernel
theorem d_law_1153 : decode code 1153 = .ok (.aload_n 0, 1) := by decide +kernel
theorem d_law_1154 : decode code 1154 = .ok (.iload_n 3, 1) := by decide +kernel
theorem d_law_1155 : decode code 1155 = .ok (.iconst 1, 1) := by decide +kernel
theorem d_law_1156 : decode code 1156 = .ok (.iadd, 1) := by decide +kernel
theorem d_law_1157 : decode code 1157 = .ok (.iaload, 1) := by decide +kernel
theorem d_law_1158 : decode code 1158 = .ok (.invokevirtual 161, 3) := by decide +kernel
theorem d_law_1161 : decode code 1161 = .ok (.if_icmp .eq 5, 3) := by decide +kernel
theorem d_law_1164 : decode code 1164 = .ok (.iconst 0, 1) := by decide +kernel
theorem d_law_1165 : decode code 1165 = .ok (.ireturn, 1) := by decide +kernel
theorem d_law_1166 : decode code 1166 = .ok (.iinc 3 5, 3) := by decide +kernel
theorem d_law_1169 : decode code 1169 = .ok (.goto ((-1151)), 3) := by decide +kernel
theorem d_law_1172 : decode code 1172 = .ok (.iconst 1, 1) := by decide +kernel
theorem d_law_1173 : decode code 1173 = .ok (.ireturn, 1) := by decide +kernel
